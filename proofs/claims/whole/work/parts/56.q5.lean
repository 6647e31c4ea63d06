/-! questions: reads, longest -/
def rdf (f : Nat → Int64) (t : Nat → Nat) (p : Nat) : Nat → Nat → Int64
  | 0 => f
  | k + 1 => vp_updL (rdf f t p k) k (nn (t (p + k))).toInt64
theorem reads_b48 {G0 : zH} {c0 c1 b1 : Nat → Nat} {n p m : Nat} {a : TA} {f : Nat → Int64} {st : TS} {hi : TH} {ke : TK} {pg qg : TP} {sc : Nat → Int32} {W : Nat → LVa} {P : PC} {St : Nat → Nat} (hm : m ≤ 16) (hpm : p + m ≤ sz P) (hz : sz P ≤ 3000) (hp : PgTo pg P St (sz P)) (ht : ∀ p, p < sz P → 1 ≤ St (srcAt P p) ∧ St (srcAt P p) ≤ 127) : ∀ fu k G, k ≤ m → m - k < fu → Cl G c1 b1 n a (k, rdf f (fun p => St (srcAt P p)) p k) st hi ke pg qg sc W → Fo G0 c0 G c1 → ok (fX6_reads_b48 fu G 0 (nn p) 20 (nn m) (nn k)) fun z => z.1 = nn m ∧ Cl z.2 c1 b1 n a (m, rdf f (fun p => St (srcAt P p)) p m) st hi ke pg qg sc W ∧ Fo G0 c0 z.2 c1 := by
  intro fu
  induction fu with
  | zero => intro k G _ h; omega
  | succ fu ih =>
    intro k G hk hfu h hf
    unfold fX6_reads_b48
    by_cases e : m ≤ k
    · refine ift (by rw [nn_le (by omega) (by omega)]; exact e) ?_
      have : k = m := by omega
      subst this
      exact ok_some ⟨rfl, h, hf⟩
    · refine ifn (by rw [nn_le (by omega) (by omega)]; exact e) ?_
      have hPV := PV_of h.1 hp hz ht
      refine sa1 h.1.r0_2 ?_
      refine sa1 hPV.1 ?_
      rw [nn_add]
      refine sa1 (hPV.2.2.1 (p + k) (by omega)) ?_
      refine sa1 h.1.io2 ?_
      refine ca1 (add5_sp h.1 h.2.2.1 0 _ (by show k < 16; omega)) ?_
      rintro G1 ⟨h1, u1⟩
      rw [q1, nn_add]
      refine zl ?_
      exact ih (k + 1) G1 (by omega) (by omega) (h.fx h1 u1 rfl rfl) (hf.trans (u1.1.fo (by omega)))
theorem reads_b34 {M0 : MS} {n p q m ts : Nat} {f : Nat → Int64} {t : Nat → Nat} (hm : m = min q (n - p)) (hq : q ≤ 16) (hp : p ≤ n) (hn : n ≤ 3000) : ∀ fu k M, k ≤ m → m - k < fu → RRo M (k, rdf f t p k) → Mq M0 M → M.1 4 = nn ts → RV M n t → ∃ M1, fX7_reads_b34 fu M (nn p) (nn q) (nn (p + k)) = some (nn m, M1) ∧ RRo M1 (m, rdf f t p m) ∧ Mq M0 M1 ∧ M1.1 4 = nn ts := by
  intro fu
  induction fu with
  | zero => intro k M _ h; omega
  | succ fu ih =>
    intro k M hk hfu hr hq' h4 hv
    unfold fX7_reads_b34 fX7_reads_b65
    rw [nn_add, if_le (by omega) (by omega)]
    have hr1 : M.1 1 = nn k := hr.1
    by_cases e : k = m
    · have hend : some (M.1 1, M) = some (nn m, M) := by rw [hr1, e]
      subst e
      by_cases e1 : p + q ≤ p + k
      · rw [if_pos e1]
        exact ⟨M, hend, hr, hq', h4⟩
      · rw [if_neg e1, hv.1, if_le (by omega) (by omega), if_pos (by omega)]
        exact ⟨M, hend, hr, hq', h4⟩
    · rw [if_neg (by omega), hv.1, if_le (by omega) (by omega), if_neg (by omega), hv.2.1 _ (by omega), ob1_some, enters_sp hr1 (by omega), ob1_some, zlt, q1, nn_add]
      exact ih (k + 1) _ (by omega) (by omega) (hr.en _) (hq'.en _ _) h4 hv
theorem op_reads : Op_reads Inv := by
  intro k G x y hI
  refine op_fin (f6 := fX6_reads G 0 x y) (f7 := fun M => fX7_reads M x y) hI ?_
  intro c bu a ro st s u f lv ke pg qg sc W M T St kd h1 h5 h6
  obtain ⟨hv, ht⟩ := h5.cur
  have hRB : RBk (mI M 0 0) (W s).1 := h6.2.2.2.1.cg rfl rfl
  have hRV := RV_of hRB (h6.2.2.1.cg rfl rfl rfl rfl : RSt (mI M 0 0) St st.1 st.2.1) hv.1 ht
  have hRV2 : RV (mI (mI M 0 0) 1 0) (sz (W s).1) (fun p => St (srcAt (W s).1 p)) := hRV
  have hs : s < 31 := h5.2.2.2.1.1
  have hz := hv.2.1
  have hmk : RMk M (W s) := h6.2.2.2.2.1
  have m1 : (1 : Int64).toInt = (1 : Nat) := rfl
  have m16 : (16 : Int64).toInt = (16 : Nat) := rfl
  have refuse6 : ∀ {G1 c1 b1 lv1}, Cl G1 c1 b1 (3016 * (4 * (k + 1) + a.2.1)) a ro st (s, u, f, lv1) ke pg qg sc W → Fo G c G1 c1 → ok (some ((-1 : Int32), G1)) (CQ G c (3016 * (4 * (k + 1) + a.2.1)) a a.2.1 ro st s u f ke W St (-1)) := fun y2 y3 => CQ_ret (old := a.2.2.1) y2 y3 h5.2.1.2.1 h5.2.2.2.2.2.2
  rcases nn_or x with hx | ⟨p, hp, rfl⟩
  · refine fin0 (-1) h5 h6 ?_ ?_
    · unfold fX6_reads
      refine sa1 h1.1.io0 ?_
      refine sa2 (isPlace6_neg hx) ?_
      refine ift rfl ?_
      exact ret0 h1 h5
    · unfold fX7_reads
      rw [zlt, isPlace7_neg hx]
      rfl
  · by_cases e : p ≤ sz (W s).1
    · rcases nn_or y with hy | ⟨q, hq, rfl⟩
      · refine fin0 (-1) h5 h6 ?_ ?_
        · unfold fX6_reads
          refine sa1 h1.1.io0 ?_
          refine ca2 (isPlace6_sp h1 hs hz hp) ?_
          rintro v G1 ⟨y1, c1, b1, lv1, y2, y3, -⟩
          change v = _ at y1
          subst y1
          refine ifn (by rw [if_pos e]; decide) ?_
          refine ift (by rw [q1]; exact ng_lt hy (by omega)) ?_
          exact refuse6 y2 y3
        · unfold fX7_reads
          rw [zlt, isPlace7_sp hRB hp, ob1_some, if_neg (by rw [if_pos e]; decide), in_cn hy m1]
          rfl
      · by_cases e2 : 1 ≤ q ∧ q ≤ 16
        · have h16 : min q (sz (W s).1 - p) ≤ 16 := by omega
          obtain ⟨M1, r1, r2, r3, r4⟩ := reads_b34 (M0 := M) (ts := a.2.1) (f := ro.2) (t := fun p => St (srcAt (W s).1 p)) (m := min q (sz (W s).1 - p)) (q := q) rfl e2.2 e hz FU 0 (mI (mI M 0 0) 1 0) (by omega) (by rw [FU_eq]; omega) (RRo.zero _ _) (Mq_i0 M 0) h6.1.2 hRV2
          refine ⟨nn (min q (sz (W s).1 - p)), (min q (sz (W s).1 - p), rdf ro.2 (fun p => St (srcAt (W s).1 p)) p (min q (sz (W s).1 - p))), a.2.1, M1, Nat.le_refl _, h16, ?_, ?_, r3, r4, r2⟩
          · unfold fX6_reads
            refine sa1 h1.1.io0 ?_
            refine ca2 (isPlace6_sp h1 hs hz hp) ?_
            rintro v G1 ⟨y1, c1, b1, lv1, y2, y3, -⟩
            change v = _ at y1
            subst y1
            refine ifn (by rw [if_pos e]; decide) ?_
            refine ifn (by rw [q1, nn_lt hq (by omega)]; omega) ?_
            refine ift (by rw [q16, nn_le hq (by omega)]; omega) ?_
            refine sa1 y2.1.io0 ?_
            refine page_open y2 h5.lv' y3 ?_
            intro G2 c2 b2 lv2 pg2 z1 z2 z3 hPV
            refine sa1 hPV.2.1 ?_
            rw [nn_sub e, if_lt (by omega) hq, nn_if, show (if sz (W s).1 - p < q then sz (W s).1 - p else q) = min q (sz (W s).1 - p) by split <;> omega]
            refine zl ?_
            refine sa1 z1.1.r0_2 ?_
            refine sa1 z1.1.io2 ?_
            refine ca1 (clear5_sp z1.1 z1.2.2.1 0) ?_
            rintro G3 ⟨g1, g2⟩
            rw [q0]
            refine ok_imp (reads_b48 (f := ro.2) h16 (by omega) hz z2 ht FU 0 G3 (by omega) (by rw [FU_eq]; omega) (z1.fx g1 g2 rfl rfl) (z3.trans (g2.1.fo (by omega)))) ?_
            rintro z ⟨w1, w2, w3⟩
            exact ⟨w1, c2, b2, lv2, 0, pg2, qg, sc, w2, w3, by omega, fun _ => z2⟩
          · show fX7_reads M (nn p) (nn q) = _
            unfold fX7_reads
            rw [zlt, isPlace7_sp hRB hp, ob1_some, if_neg (by rw [if_pos e]; decide), in_c hq m1 m16, ob1_some, if_neg (by rw [if_pos e2]; decide), zlt]
            exact r1
        · refine fin0 (-1) h5 h6 ?_ ?_
          · unfold fX6_reads
            refine sa1 h1.1.io0 ?_
            refine ca2 (isPlace6_sp h1 hs hz hp) ?_
            rintro v G1 ⟨y1, c1, b1, lv1, y2, y3, -⟩
            change v = _ at y1
            subst y1
            refine ifn (by rw [if_pos e]; decide) ?_
            by_cases e3 : q < 1
            · refine ift (by rw [q1, nn_lt hq (by omega)]; exact e3) ?_
              exact refuse6 y2 y3
            · refine ifn (by rw [q1, nn_lt hq (by omega)]; exact e3) ?_
              refine ifn (by rw [q16, nn_le hq (by omega)]; omega) ?_
              exact refuse6 y2 y3
          · unfold fX7_reads
            rw [zlt, isPlace7_sp hRB hp, ob1_some, if_neg (by rw [if_pos e]; decide), in_c hq m1 m16, ob1_some, if_pos (by rw [if_neg e2]; rfl)]
    · refine fin0 (-1) h5 h6 ?_ ?_
      · unfold fX6_reads
        refine sa1 h1.1.io0 ?_
        refine ca2 (isPlace6_sp h1 hs hz hp) ?_
        rintro v G1 ⟨y1, c1, b1, lv1, y2, y3, -⟩
        change v = _ at y1
        subst y1
        refine ift (by rw [if_neg e]; rfl) ?_
        exact refuse6 y2 y3
      · unfold fX7_reads
        rw [zlt, isPlace7_sp hRB hp, ob1_some, if_pos (by rw [if_neg e]; rfl)]
/-- the longest line: best, most, empty lines; line by line -/
def lgF (t : Nat → Nat) (n : Nat) : Nat → Nat → Int → Nat → Nat → Nat → Nat × Int × Nat
  | 0, best, most, em, _, _ => (best, most, em)
  | d + 1, best, most, em, line, b => if n < b then (best, most, em) else lgF t n d (if most < ((fstF (isB t) b (n - b) - b : Nat) : Int) then line else best) (max most ((fstF (isB t) b (n - b) - b : Nat) : Int)) (em + if fstF (isB t) b (n - b) - b = 0 then 1 else 0) (line + 1) (fstF (isB t) b (n - b) + 1)
theorem longest_skip {G : zH} {n b e : Nat} {t w : Nat → Nat} (h : PV G n t w) (x2 x3 x4 x5 x6 : Int32) (he : e = fstF (isB t) b (n - b)) (hb : b ≤ n) : ∀ j p fu, p + j = e → b ≤ p → fX6_longest_b21 (fu + j) G 0 20 x2 x3 x4 x5 x6 (nn p) = fX6_longest_b21 fu G 0 20 x2 x3 x4 x5 x6 (nn e) := by
  obtain ⟨v1, v2, v3, v4, v5, v6, v7⟩ := h
  have hfl := fstF_le (isB t) b (n - b)
  intro j
  induction j with
  | zero => intro p fu hp _; rw [← hp]; rfl
  | succ j ih =>
    intro p fu hp hbp
    have hno := fstF_no (b := isB t) (p := b) (d := n - b) (k := p) hbp (by omega)
    rw [isB_f] at hno
    have := v7 p (by omega)
    rw [show fu + (j + 1) = fu + j + 1 by omega]
    rw [show fX6_longest_b21 (fu + j + 1) G 0 20 x2 x3 x4 x5 x6 (nn p) = fX6_longest_b21 (fu + j) G 0 20 x2 x3 x4 x5 x6 (nn (p + 1)) from ?_]
    · exact ih (p + 1) fu (by omega) (by omega)
    · conv => lhs; unfold fX6_longest_b21
      rw [v2, ob1_some, if_lt (by omega) (by omega), if_neg (by omega), ob1_some, if_eq (by omega) (by omega), if_neg (by omega), v1, ob1_some, v3 p (by omega), ob1_some, q10, if_eq (by omega) (by omega), if_neg hno]
      unfold fX6_longest_b87
      rw [zlt, q1, nn_add]
theorem longest6 {G : zH} {n : Nat} {t w : Nat → Nat} (h : PV G n t w) : ∀ d b fu best most em line, n + 1 - b ≤ d → b ≤ n + 1 → 2 * (n + 2 - b) < fu → best ≤ 3001 → -1 ≤ most → most ≤ 3000 → em ≤ line → line ≤ b → fX6_longest_b21 fu G 0 20 (nn best) (ii most) (nn em) (nn line) (nn b) (nn b) = fX6_longest_b93 G 0 (nn (lgF t n d best most em line b).1) (ii (lgF t n d best most em line b).2.1) (nn (lgF t n d best most em line b).2.2) := by
  have hPV := h
  obtain ⟨v1, v2, v3, v4, v5, v6, v7⟩ := h
  intro d
  induction d with
  | zero =>
    intro b fu best most em line hd hb hfu _ _ _ _ _
    obtain ⟨fu', rfl⟩ : ∃ f', fu = f' + 1 := ⟨fu - 1, by omega⟩
    unfold fX6_longest_b21
    rw [v2, ob1_some, if_lt (by omega) (by omega), if_pos (by omega)]
    rfl
  | succ d ih =>
    intro b fu best most em line hd hb hfu hbest hm1 hm2 hem hli
    simp only [lgF]
    by_cases e : n < b
    · rw [if_pos e]
      obtain ⟨fu', rfl⟩ : ∃ f', fu = f' + 1 := ⟨fu - 1, by omega⟩
      unfold fX6_longest_b21
      rw [v2, ob1_some, if_lt (by omega) (by omega), if_pos (by omega)]
    · rw [if_neg e]
      have hfl := fstF_le (isB t) b (n - b)
      have hat := fstF_at (b := isB t) (p := b) (d := n - b)
      obtain ⟨L, hL⟩ : ∃ L, fstF (isB t) b (n - b) = b + L := ⟨fstF (isB t) b (n - b) - b, by omega⟩
      rw [hL] at hfl hat ⊢
      have hLn : b + L ≤ n := by omega
      have hat' : b + L < n → t (b + L) = 10 := by
        intro hh
        have := hat (by omega)
        rw [isB_t] at this
        exact this
      clear hat hfl
      rw [Nat.add_sub_cancel_left]
      obtain ⟨fu', rfl⟩ : ∃ f', fu = f' + L := ⟨fu - L, by omega⟩
      rw [longest_skip hPV _ _ _ _ _ hL.symm (by omega) L b fu' rfl (Nat.le_refl _)]
      clear hL
      obtain ⟨fu2, rfl⟩ : ∃ f', fu' = f' + 1 := ⟨fu' - 1, by omega⟩
      have b68 : ∀ x2 x3, fX6_longest_b68 (fX6_longest_b21 fu2) G 0 20 x2 x3 (nn em) (nn line) (nn b) (nn (b + L)) = fX6_longest_b21 fu2 G 0 20 x2 x3 (nn (em + if L = 0 then 1 else 0)) (nn (line + 1)) (nn (b + L + 1)) (nn (b + L + 1)) := by
        intro x2 x3
        unfold fX6_longest_b68 fX6_longest_b78 fX6_longest_b87
        rw [if_eq (by omega) (by omega)]
        by_cases e1 : L = 0
        · rw [if_pos (show b + L = b by omega), zlt, zlt, zlt, zlt, q1, nn_add, nn_add, nn_add, if_pos e1]
        · rw [if_neg (show ¬ b + L = b by omega), zlt, zlt, zlt, q1, nn_add, nn_add, if_neg e1]
          rfl
      have b50 : fX6_longest_b50 (fX6_longest_b21 fu2) G 0 20 (nn best) (ii most) (nn em) (nn line) (nn b) (nn (b + L)) = fX6_longest_b21 fu2 G 0 20 (nn (if most < (L : Int) then line else best)) (ii (max most (L : Int))) (nn (em + if L = 0 then 1 else 0)) (nn (line + 1)) (nn (b + L + 1)) (nn (b + L + 1)) := by
        unfold fX6_longest_b50
        rw [nn_sub (by omega), Nat.add_sub_cancel_left]
        by_cases e1 : (L : Int) ≤ most
        · rw [if_pos (by rw [nn_le_ii (by omega) (by omega)]; exact e1), b68, if_neg (show ¬ most < (L : Int) by omega), show max most (L : Int) = most by omega]
        · rw [if_neg (by rw [nn_le_ii (by omega) (by omega)]; exact e1), zlt, b68, if_pos (show most < (L : Int) by omega), show max most (L : Int) = (L : Int) by omega, ii_nn]
      have main : fX6_longest_b21 (fu2 + 1) G 0 20 (nn best) (ii most) (nn em) (nn line) (nn b) (nn (b + L)) = fX6_longest_b50 (fX6_longest_b21 fu2) G 0 20 (nn best) (ii most) (nn em) (nn line) (nn b) (nn (b + L)) := by
        conv => lhs; unfold fX6_longest_b21
        rw [v2, ob1_some, if_lt (by omega) (by omega), if_neg (by omega), ob1_some, if_eq (by omega) (by omega)]
        by_cases e1 : b + L = n
        · rw [if_pos e1]
        · rw [if_neg e1, v1, ob1_some, v3 (b + L) (by omega), ob1_some, hat' (by omega), q10, if_pos rfl]
      rw [main, b50]
      clear main b50 b68
      exact ih (b + L + 1) fu2 _ _ _ _ (by omega) (by omega) (by omega) (by split <;> omega) (by omega) (by omega) (by split <;> omega) (by omega)
theorem longest7 {M : MS} {n : Nat} {t : Nat → Nat} (h : RV M n t) : ∀ d b fu best most em line, n + 1 - b ≤ d → b ≤ n + 1 → n + 2 - b < fu → best ≤ 3001 → -1 ≤ most → most ≤ 3000 → em ≤ line → line ≤ b → fX7_longest_b17 fu M (nn best) (ii most) (nn em) (nn line) (nn b) = fX7_longest_b88 M (nn (lgF t n d best most em line b).1) (ii (lgF t n d best most em line b).2.1) (nn (lgF t n d best most em line b).2.2) := by
  have hRV := h
  obtain ⟨v1, v3, v6, v7⟩ := h
  intro d
  induction d with
  | zero =>
    intro b fu best most em line hd hb hfu _ _ _ _ _
    obtain ⟨fu', rfl⟩ : ∃ f', fu = f' + 1 := ⟨fu - 1, by omega⟩
    unfold fX7_longest_b17
    rw [v1, if_lt (by omega) (by omega), if_pos (by omega)]
    rfl
  | succ d ih =>
    intro b fu best most em line hd hb hfu hbest hm1 hm2 hem hli
    simp only [lgF]
    obtain ⟨fu', rfl⟩ : ∃ f', fu = f' + 1 := ⟨fu - 1, by omega⟩
    unfold fX7_longest_b17
    rw [v1, if_lt (by omega) (by omega)]
    by_cases e : n < b
    · rw [if_pos e, if_pos e]
    · rw [if_neg e, if_neg e, endFrom7 hRV (by omega), ob1_some]
      have hfl := fstF_le (isB t) b (n - b)
      obtain ⟨L, hL⟩ : ∃ L, fstF (isB t) b (n - b) = b + L := ⟨fstF (isB t) b (n - b) - b, by omega⟩
      rw [hL] at hfl ⊢
      have hLn : b + L ≤ n := by omega
      clear hfl hL
      rw [nn_sub (by omega), zlt, Nat.add_sub_cancel_left]
      have b65 : ∀ y em', fX7_longest_b65 (fX7_longest_b17 fu') M (ii most) (nn em') (nn line) (nn b) (nn L) y = fX7_longest_b17 fu' M y (ii (max most (L : Int))) (nn em') (nn (line + 1)) (nn (b + L + 1)) := by
        intro y em'
        unfold fX7_longest_b65
        have hmx : (if ii most < nn L then nn L else ii most) = ii (max most (L : Int)) := by
          by_cases e1 : most < (L : Int)
          · rw [if_pos (by rw [ii_lt_nn (by omega) (by omega)]; exact e1), show max most (L : Int) = (L : Int) by omega, ii_nn]
          · rw [if_neg (by rw [ii_lt_nn (by omega) (by omega)]; exact e1), show max most (L : Int) = most by omega]
        rw [hmx, zlt, zlt, zlt, q1, nn_add, nn_add, nn_add, show b + (L + 1) = b + L + 1 by omega]
      have b48 : ∀ s0, s0 ≤ 1 → fX7_longest_b48 (fX7_longest_b17 fu') M (nn best) (ii most) (nn line) (nn b) (nn L) (nn s0) (nn em) = fX7_longest_b17 fu' M (nn (if most < (L : Int) then line else best)) (ii (max most (L : Int))) (nn (em + s0)) (nn (line + 1)) (nn (b + L + 1)) := by
        intro s0 hs0
        unfold fX7_longest_b48
        rw [flag_nn hs0, ob1_some, nn_add, zlt]
        by_cases e1 : (L : Int) ≤ most
        · rw [if_pos (by rw [nn_le_ii (by omega) (by omega)]; exact e1), b65, if_neg (show ¬ most < (L : Int) by omega)]
        · rw [if_neg (by rw [nn_le_ii (by omega) (by omega)]; exact e1), b65, if_pos (show most < (L : Int) by omega)]
      have hst : (if nn L = 0 then fX7_longest_b48 (fX7_longest_b17 fu') M (nn best) (ii most) (nn line) (nn b) (nn L) (1 : Int32) (nn em) else fX7_longest_b48 (fX7_longest_b17 fu') M (nn best) (ii most) (nn line) (nn b) (nn L) (0 : Int32) (nn em)) = fX7_longest_b17 fu' M (nn (if most < (L : Int) then line else best)) (ii (max most (L : Int))) (nn (em + if L = 0 then 1 else 0)) (nn (line + 1)) (nn (b + L + 1)) := by
        rw [q0, q1, if_eq (by omega) (by omega)]
        by_cases e1 : L = 0
        · rw [if_pos e1, if_pos e1, b48 1 (by omega)]
        · rw [if_neg e1, if_neg e1, b48 0 (by omega)]
      refine hst.trans ?_
      clear hst b48 b65
      exact ih (b + L + 1) fu' _ _ _ _ (by omega) (by omega) (by omega) (by split <;> omega) (by omega) (by omega) (by split <;> omega) (by omega)
theorem op_longest : Op_longest Inv := by
  intro k G  hI
  refine op_fin (f6 := fX6_longest G 0) (f7 := fun M => fX7_longest M) hI ?_
  intro c bu a ro st s u f lv ke pg qg sc W M T St kd h1 h5 h6
  obtain ⟨hv, ht⟩ := h5.cur
  have hRB : RBk (mI M 0 0) (W s).1 := h6.2.2.2.1.cg rfl rfl
  have hRV := RV_of hRB (h6.2.2.1.cg rfl rfl rfl rfl : RSt (mI M 0 0) St st.1 st.2.1) hv.1 ht
  have hRV2 : RV (mI (mI M 0 0) 1 0) (sz (W s).1) (fun p => St (srcAt (W s).1 p)) := hRV
  have hs : s < 31 := h5.2.2.2.1.1
  have hz := hv.2.1
  have hmk : RMk M (W s) := h6.2.2.2.2.1
  refine fin2 (nn (lgF (fun p => St (srcAt (W s).1 p)) (sz (W s).1) (sz (W s).1 + 1) 0 (-1) 0 0 0).1) (ii (lgF (fun p => St (srcAt (W s).1 p)) (sz (W s).1) (sz (W s).1 + 1) 0 (-1) 0 0 0).2.1).toInt64 (nn (lgF (fun p => St (srcAt (W s).1 p)) (sz (W s).1) (sz (W s).1 + 1) 0 (-1) 0 0 0).2.2).toInt64 h6 ?_ ?_
  · unfold fX6_longest
    refine sa1 h1.1.io0 ?_
    refine page_open h1 h5 (Fo.refl _ _) ?_
    intro G2 c2 b2 lv2 pg2 z1 z2 z3 hPV
    rw [q0, im1]
    refine ok_of (longest6 hPV (sz (W s).1 + 1) 0 FU 0 (-1) 0 0 (by omega) (by omega) (by rw [FU_eq]; omega) (by omega) (by omega) (by omega) (by omega) (by omega)) ?_
    unfold fX6_longest_b93
    refine sa1 z1.1.r0_2 ?_
    refine sa1 z1.1.io2 ?_
    exact CQ_t2 z1 z3 (by omega) (fun _ => z2) _ _
  · show fX7_longest M = _
    unfold fX7_longest
    rw [zlt, im1]
    refine (longest7 hRV (sz (W s).1 + 1) 0 FU 0 (-1) 0 0 (by omega) (by omega) (by rw [FU_eq]; omega) (by omega) (by omega) (by omega) (by omega) (by omega)).trans ?_
    unfold fX7_longest_b88
    rw [zlt, tl1_sp, ob1_some, tl2_sp, ob1_some]
