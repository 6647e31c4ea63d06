/-! questions: the common way -/
def CQ (G : zH) (c : Nat → Nat) (n : Nat) (a : TA) (ts : Nat) (ro1 : TR) (st : TS) (s u f : Nat) (ke : TK) (W : Nat → LVa) (St : Nat → Nat) (r : Int32) (z : Int32 × zH) : Prop := z.1 = r ∧ ∃ c' bu' lv' old pg' qg' sc', Cl z.2 c' bu' n (a.1, ts, old, a.2.2.2) ro1 st (s, u, f, lv') ke pg' qg' sc' W ∧ Fo G c z.2 c' ∧ old ≤ 1 ∧ (old = 0 → PgTo pg' (W s).1 St (sz (W s).1))
theorem op_fin {f6 : Option (Int32 × zH)} {f7 : MS → Option (Int32 × MS)} {k : Nat} {G : zH} (hI : Inv (k + 1) G) (H : ∀ (c bu : Nat → Nat) (a : TA) (ro : TR) (st : TS) (s u f : Nat) (lv : Nat → Option Nat) (ke : TK) (pg qg : TP) (sc : Nat → Int32) (W : Nat → LVa) (M : MS) (T St kd : Nat → Nat), Cl G c bu (3016 * (4 * (k + 1) + a.2.1)) a ro st (s, u, f, lv) ke pg qg sc W → Sm T St kd a ro st (s, u, f, lv) ke pg W → Rf M G c T St kd a ro st (s, u, f, lv) W → ∃ r ro1 ts M1, ts ≤ a.2.1 ∧ ro1.1 ≤ 16 ∧ ok f6 (CQ G c (3016 * (4 * (k + 1) + a.2.1)) a ts ro1 st s u f ke W St r) ∧ f7 M = some (r, M1) ∧ Mq M M1 ∧ M1.1 4 = nn ts ∧ RRo M1 ro1) : ∃ (r : Int32) (G1 A : zH) (M : MS) (B : zH) (M1 : MS) (B1 : zH), f6 = some (r, G1) ∧ G1 = hG A M B ∧ A.length = 27 ∧ f7 M = some (r, M1) ∧ B1 = B ∧ Inv k (hG A M1 B1) := by
  obtain ⟨c, bu, a, ro, st, ⟨s, u, f, lv⟩, ke, pg, qg, sc, W, M, A, B, T, St, kd, h1, h2, h3, h4, h5, h6⟩ := hI
  obtain ⟨r, ro1, ts, M1, g1, g2, ⟨⟨r', G1⟩, e6, hr, c1, b1, lv1, old, pg1, qg1, sc1, x1, x2, x3, x4⟩, e7, g3, g4, g5⟩ := H c bu a ro st s u f lv ke pg qg sc W M T St kd h1 h5 h6
  change r' = r at hr
  subst hr
  obtain ⟨A1, B1, e1, e2, hI⟩ := op_q (M1 := M1) h2 h3 h1.2.2.2.1 h4 h5 h6 x1 x2 g3 g1 g4 g5 g2 x3 x4
  exact ⟨r', G1, A1, M, B1, M1, B1, e6, e1, e2, e7, rfl, hI⟩
/-! what is told: the reference -/
def en (M : MS) (n : Nat) (v : Int64) : MS := mI (mL M (vp_updL M.2.2.1 n v)) 1 (nn (n + 1))
theorem enters_sp {M : MS} {n : Nat} {v : Int64} (h : M.1 1 = nn n) (hn : n < 24) : fX7_enters M v = some (en M n v) := by
  unfold fX7_enters
  rw [h, wr_nn hn (by omega), ob1_some, nn_tn (by omega)]
  show some (mI _ 1 ((mL M (vp_updL M.2.2.1 n v)).1 1 + 1)) = _
  have : (mL M (vp_updL M.2.2.1 n v)).1 1 = nn n := h
  rw [this, q1, nn_add]
  rfl
theorem RRo.en {M : MS} {n : Nat} {f : Nat → Int64} (h : RRo M (n, f)) (v : Int64) : RRo (en M n v) (n + 1, vp_updL f n v) := by
  refine ⟨rfl, fun k hk => ?_⟩
  show vp_updL M.2.2.1 n v k = vp_updL f n v k
  unfold vp_updL
  by_cases e : k = n
  · rw [if_pos e, if_pos e]
  · rw [if_neg e, if_neg e]
    exact h.2 k (by have : k < n + 1 := hk; omega)
theorem RRo.zero (M : MS) (f : Nat → Int64) : RRo (mI M 1 0) (0, f) := ⟨rfl, fun k hk => by have : k < 0 := hk; omega⟩
theorem Mq.en {M M' : MS} (h : Mq M M') (n : Nat) (v : Int64) : Mq M (en M' n v) := h
theorem Mq.i1 {M M' : MS} (h : Mq M M') (v : Int32) : Mq M (mI M' 1 v) := h
def tl1 (M : MS) (v : Int64) : MS := en (mI M 1 0) 0 v
def tl2 (M : MS) (v w : Int64) : MS := en (tl1 M v) 1 w
def tl3 (M : MS) (v w x : Int64) : MS := en (tl2 M v w) 2 x
theorem tl1_sp (M : MS) (v : Int64) : fX7_enters (mI M 1 0) v = some (tl1 M v) := enters_sp rfl (by omega)
theorem tl2_sp (M : MS) (v w : Int64) : fX7_enters (tl1 M v) w = some (tl2 M v w) := enters_sp rfl (by omega)
theorem tl3_sp (M : MS) (v w x : Int64) : fX7_enters (tl2 M v w) x = some (tl3 M v w x) := enters_sp rfl (by omega)
theorem RRo.tl1 (M : MS) (f : Nat → Int64) (v : Int64) : RRo (tl1 M v) (1, vp_updL f 0 v) := (RRo.zero M f).en v
theorem RRo.tl2 (M : MS) (f : Nat → Int64) (v w : Int64) : RRo (tl2 M v w) (2, vp_updL (vp_updL f 0 v) 1 w) := (RRo.tl1 M f v).en w
theorem RRo.tl3 (M : MS) (f : Nat → Int64) (v w x : Int64) : RRo (tl3 M v w x) (3, vp_updL (vp_updL (vp_updL f 0 v) 1 w) 2 x) := (RRo.tl2 M f v w).en x
/-! what is told: the class -/
section CQs
variable {G G1 : zH} {c c1 bu1 : Nat → Nat} {n ts old : Nat} {a : TA} {ro : TR} {st : TS} {s u f : Nat} {lv1 : Nat → Option Nat} {ke : TK} {pg1 qg1 : TP} {sc1 : Nat → Int32} {W : Nat → LVa} {St : Nat → Nat} {r : Int32}
theorem CQ_ret (h : Cl G1 c1 bu1 n (a.1, ts, old, a.2.2.2) ro st (s, u, f, lv1) ke pg1 qg1 sc1 W) (hf : Fo G c G1 c1) (ho : old ≤ 1) (hp : old = 0 → PgTo pg1 (W s).1 St (sz (W s).1)) : ok (some (r, G1)) (CQ G c n a ts ro st s u f ke W St r) := ok_some ⟨rfl, c1, bu1, lv1, old, pg1, qg1, sc1, h, hf, ho, hp⟩
theorem CQ_t1 (h : Cl G1 c1 bu1 n (a.1, ts, old, a.2.2.2) ro st (s, u, f, lv1) ke pg1 qg1 sc1 W) (hf : Fo G c G1 c1) (ho : old ≤ 1) (hp : old = 0 → PgTo pg1 (W s).1 St (sz (W s).1)) (v : Int64) : ok (ob1 (fX5_tell G1 2 v) fun G2 => some (r, G2)) (CQ G c n a ts (1, vp_updL ro.2 0 v) st s u f ke W St r) := by
  refine ca1 (tell1_sp h.1 h.2.2.1 0 v) ?_
  rintro G2 ⟨h2, u2⟩
  exact CQ_ret (h.fx h2 u2 rfl rfl) (hf.trans (u2.1.fo (by omega))) ho hp
theorem CQ_t2 (h : Cl G1 c1 bu1 n (a.1, ts, old, a.2.2.2) ro st (s, u, f, lv1) ke pg1 qg1 sc1 W) (hf : Fo G c G1 c1) (ho : old ≤ 1) (hp : old = 0 → PgTo pg1 (W s).1 St (sz (W s).1)) (v w : Int64) : ok (ob1 (fX5_tell_ G1 2 v w) fun G2 => some (r, G2)) (CQ G c n a ts (2, vp_updL (vp_updL ro.2 0 v) 1 w) st s u f ke W St r) := by
  refine ca1 (tell2_sp h.1 h.2.2.1 0 v w) ?_
  rintro G2 ⟨h2, u2⟩
  exact CQ_ret (h.fx h2 u2 rfl rfl) (hf.trans (u2.1.fo (by omega))) ho hp
theorem CQ_t3 (h : Cl G1 c1 bu1 n (a.1, ts, old, a.2.2.2) ro st (s, u, f, lv1) ke pg1 qg1 sc1 W) (hf : Fo G c G1 c1) (ho : old ≤ 1) (hp : old = 0 → PgTo pg1 (W s).1 St (sz (W s).1)) (v w x : Int64) : ok (ob1 (fX5_tell__ G1 2 v w x) fun G2 => some (r, G2)) (CQ G c n a ts (3, vp_updL (vp_updL (vp_updL ro.2 0 v) 1 w) 2 x) st s u f ke W St r) := by
  refine ca1 (tell3_sp h.1 h.2.2.1 0 v w x) ?_
  rintro G2 ⟨h2, u2⟩
  exact CQ_ret (h.fx h2 u2 rfl rfl) (hf.trans (u2.1.fo (by omega))) ho hp
end CQs
/-! places: the class's isPlace, hasSigns -/
section Places
variable {G : zH} {c bu : Nat → Nat} {n : Nat} {a : TA} {ro : TR} {st : TS} {s u f : Nat} {lv : Nat → Option Nat} {ke : TK} {pg qg : TP} {sc : Nat → Int32} {W : Nat → LVa}
theorem isPlace6_neg {x : Int32} (hx : x < 0) : fX6_isPlace G 0 x = some (nn 0, G) := by
  unfold fX6_isPlace
  rw [if_pos hx]
  rfl
theorem isPlace6_sp (h : Cl G c bu n a ro st (s, u, f, lv) ke pg qg sc W) (hs : s < 31) (hz : sz (W s).1 ≤ 3000) {p : Nat} (hp : p < 2147483648) : ok (fX6_isPlace G 0 (nn p)) fun z => z.1 = nn (if p ≤ sz (W s).1 then 1 else 0) ∧ ∃ c' bu' lv', Cl z.2 c' bu' n a ro st (s, u, f, lv') ke pg qg sc W ∧ Fo G c z.2 c' ∧ ∀ j r, lv j = some r → lv' j = some r := by
  unfold fX6_isPlace
  refine ifn (by rw [nn_neg hp]; exact id) ?_
  refine sa1 h.1.r0_4 ?_
  refine sa1 h.1.io6 ?_
  refine ca2 (current_sp h hs) ?_
  rintro r G1 ⟨c1, b1, lv1, x1, x2, x3, x4⟩
  change Cl G1 c1 b1 n a ro st (s, u, f, lv1) ke pg qg sc W at x2
  refine sa1 (x2.lf hs x1).n3 ?_
  by_cases e : sz (W s).1 < p
  · refine ift (by rw [nn_lt (by omega) hp]; exact e) ?_
    exact ok_some ⟨by rw [if_neg (by omega)]; rfl, c1, b1, lv1, x2, x3, x4⟩
  · refine ifn (by rw [nn_lt (by omega) hp]; exact e) ?_
    exact ok_some ⟨by rw [if_pos (by omega)]; rfl, c1, b1, lv1, x2, x3, x4⟩
theorem hasSigns_sp (h : Cl G c bu n a ro st (s, u, f, lv) ke pg qg sc W) (hs : s < 31) (hz : sz (W s).1 ≤ 3000) {p m : Nat} (hp : p < 2147483648) (hm : m < 2147483648) : ok (fX6_hasSigns G 0 (nn p) (nn m)) fun z => z.1 = nn (if p + m ≤ sz (W s).1 then 1 else 0) ∧ ∃ c' bu' lv', Cl z.2 c' bu' n a ro st (s, u, f, lv') ke pg qg sc W ∧ Fo G c z.2 c' ∧ ∀ j r, lv j = some r → lv' j = some r := by
  unfold fX6_hasSigns
  refine ifn (by rw [nn_neg hp]; exact id) ?_
  refine ifn (by rw [nn_neg hm]; exact id) ?_
  refine sa1 h.1.r0_4 ?_
  refine sa1 h.1.io6 ?_
  refine ca2 (current_sp h hs) ?_
  rintro r G1 ⟨c1, b1, lv1, x1, x2, x3, x4⟩
  change Cl G1 c1 b1 n a ro st (s, u, f, lv1) ke pg qg sc W at x2
  refine sa1 (x2.lf hs x1).n3 ?_
  rw [nn_ii (sz (W s).1), nn_ii m, ii_sub]
  by_cases e : ((sz (W s).1 : Nat) : Int) - m < p
  · refine ift (by rw [ii_lt_nn hp (by omega)]; exact e) ?_
    exact ok_some ⟨by rw [if_neg (by omega)]; rfl, c1, b1, lv1, x2, x3, x4⟩
  · refine ifn (by rw [ii_lt_nn hp (by omega)]; exact e) ?_
    exact ok_some ⟨by rw [if_pos (by omega)]; rfl, c1, b1, lv1, x2, x3, x4⟩
end Places
