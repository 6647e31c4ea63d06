/-! questions: pair, nested -/
theorem op_pair : Op_pair Inv := by
  intro k G x hI
  refine op_fin (f6 := fX6_pair G 0 x) (f7 := fun M => fX7_pair M x) hI ?_
  intro c bu a ro st s u f lv ke pg qg sc W M T St kd h1 h5 h6
  obtain ⟨hv, ht⟩ := h5.cur
  have hRB : RBk (mI M 0 0) (W s).1 := h6.2.2.2.1.cg rfl rfl
  have hRV := RV_of hRB (h6.2.2.1.cg rfl rfl rfl rfl : RSt (mI M 0 0) St st.1 st.2.1) hv.1 ht
  have hRV2 : RV (mI (mI M 0 0) 1 0) (sz (W s).1) (fun p => St (srcAt (W s).1 p)) := hRV
  have hs : s < 31 := h5.2.2.2.1.1
  have hz := hv.2.1
  have hmk : RMk M (W s) := h6.2.2.2.2.1
  rcases nn_or x with hx | ⟨p, hp, rfl⟩
  · refine fin0 (-1) h5 h6 ?_ ?_
    · unfold fX6_pair
      refine sa1 h1.1.io0 ?_
      refine page_open h1 h5 (Fo.refl _ _) ?_
      intro G2 c2 b2 lv2 pg2 z1 z2 z3 hPV
      refine sa1 hPV.1 ?_
      refine sa1 (PV.hasn hx) ?_
      refine ift rfl ?_
      exact CQ_ret z1 z3 (by omega) (fun _ => z2)
    · unfold fX7_pair
      rw [zlt, isSign7_neg hx]
      rfl
  · by_cases e : p < sz (W s).1
    · have htp := ht p e
      have hv128 : St (srcAt (W s).1 p) < 128 := by omega
      have hpz := prt_zero _ hv128
      have hbl := brk_le (St (srcAt (W s).1 p))
      by_cases hp0 : prt (St (srcAt (W s).1 p)) = 0
      · have hb6 := hpz.mp hp0
        refine fin0 (-3) h5 h6 ?_ ?_
        · unfold fX6_pair
          refine sa1 h1.1.io0 ?_
          refine page_open h1 h5 (Fo.refl _ _) ?_
          intro G2 c2 b2 lv2 pg2 z1 z2 z3 hPV
          refine sa1 hPV.1 ?_
          refine sa1 (hPV.has hp) ?_
          refine ifn (by rw [if_pos e]; decide) ?_
          refine sa1 hPV.1 ?_
          refine sa1 (hPV.2.2.1 p e) ?_
          refine sa1 (partnerOf6 _ hv128) ?_
          refine ift (by show nn (prt (St (srcAt (W s).1 p))) = 0; rw [hp0]; rfl) ?_
          exact CQ_ret z1 z3 (by omega) (fun _ => z2)
        · unfold fX7_pair
          rw [zlt, isSign7_sp hRB hp, ob1_some, if_neg (by rw [if_pos e]; decide), hRV.2.1 p e, ob1_some, bracketOf7 _ hv128, ob1_some, if_pos (show brk (St (srcAt (W s).1 p)) = 6 from hb6), if_neg (by decide)]
      · have hk6 : brk (St (srcAt (W s).1 p)) < 6 := by
          have : ¬ brk (St (srcAt (W s).1 p)) = 6 := fun h => hp0 (hpz.mpr h)
          omega
        by_cases e2 : brk (St (srcAt (W s).1 p)) % 2 = 0
        · skip
          have hc := fun {G2 c2 b2 lv2 pg2 w} (z1 : Cl G2 c2 b2 (3016 * (4 * (k + 1) + a.2.1)) (a.1, a.2.1, 0, a.2.2.2) ro st (s, u, f, lv2) ke pg2 qg sc W) (z2 : PgTo pg2 (W s).1 St (sz (W s).1)) (z3 : Fo G c G2 c2) (hPV : PV G2 (sz (W s).1) (fun p => St (srcAt (W s).1 p)) w) => pair6u z1 z2 z3 hPV hv128 hk6 (sz (W s).1 - p) FU 0 0 (by omega) (by rw [FU_eq]; omega) (by omega) (by omega) (fun _ => ⟨by omega, by rw [show sz (W s).1 - (sz (W s).1 - p) = p by omega]⟩)
          have hr := pair7u hRV hRB rfl hv128 hk6 (sz (W s).1 - p) FU 0 0 (by omega) (by rw [FU_eq]; omega) (by omega) (by omega) (fun _ => ⟨by omega, by rw [show sz (W s).1 - (sz (W s).1 - p) = p by omega]⟩)
          have hX : nn p = nn (sz (W s).1 - (sz (W s).1 - p)) := by rw [show sz (W s).1 - (sz (W s).1 - p) = p by omega]
          have cls : ∀ r ro1, (∀ {G2 c2 b2 lv2 pg2 w}, Cl G2 c2 b2 (3016 * (4 * (k + 1) + a.2.1)) (a.1, a.2.1, 0, a.2.2.2) ro st (s, u, f, lv2) ke pg2 qg sc W → PgTo pg2 (W s).1 St (sz (W s).1) → Fo G c G2 c2 → PV G2 (sz (W s).1) (fun p => St (srcAt (W s).1 p)) w → ok (fX6_pair_b58 FU G2 0 20 (nn (St (srcAt (W s).1 p))) (nn (prt (St (srcAt (W s).1 p)))) (1 : Int32) (nn 0) (nn 0) (nn (sz (W s).1 - (sz (W s).1 - p)))) (CQ G c (3016 * (4 * (k + 1) + a.2.1)) a a.2.1 ro1 st s u f ke W St r)) → ok (fX6_pair G 0 (nn p)) (CQ G c (3016 * (4 * (k + 1) + a.2.1)) a a.2.1 ro1 st s u f ke W St r) := by
            intro r ro1 H
            unfold fX6_pair
            refine sa1 h1.1.io0 ?_
            refine page_open h1 h5 (Fo.refl _ _) ?_
            intro G2 c2 b2 lv2 pg2 z1 z2 z3 hPV
            refine sa1 hPV.1 ?_
            refine sa1 (hPV.has hp) ?_
            refine ifn (by rw [if_pos e]; decide) ?_
            refine sa1 hPV.1 ?_
            refine sa1 (hPV.2.2.1 p e) ?_
            refine sa1 (partnerOf6 _ hv128) ?_
            refine ifn (by show ¬ nn (prt (St (srcAt (W s).1 p))) = 0; rw [q0, nn_eq (by have := prt_lt _ hv128; omega) (by omega)]; exact hp0) ?_
            refine sa1 (opensPair6 _ hv128) ?_
            refine ifn (by rw [if_pos ⟨hk6, e2⟩]; decide) ?_
            unfold fX6_pair_b47
            have hX' : nn p = nn (sz (W s).1 - (sz (W s).1 - p)) := hX
            rw [q0, hX']
            exact H z1 z2 z3 hPV
          have ref : fX7_pair M (nn p) = fX7_pair_b52 FU (mI M 0 0) (nn (brk (St (srcAt (W s).1 p)))) (1 : Int32) (nn 0) (nn 0) (nn (sz (W s).1 - (sz (W s).1 - p))) := by
            unfold fX7_pair
            rw [zlt, isSign7_sp hRB hp, ob1_some, if_neg (by rw [if_pos e]; decide), hRV.2.1 p e, ob1_some, bracketOf7 _ hv128, ob1_some, if_neg (show ¬ brk (St (srcAt (W s).1 p)) = 6 by omega), if_pos (show (0 : Int32) ≤ nn (brk (St (srcAt (W s).1 p))) by rw [q0, nn_le (by omega) (by omega)]; omega)]
            rw [if_pos (by rw [q2, nn_div (by omega) (by omega), nn_mul, nn_sub (by omega), q0, nn_eq (by omega) (by omega)]; omega)]
            unfold fX7_pair_b42
            rw [← hX]
            rfl
          cases hq : prF (fun p => St (srcAt (W s).1 p)) (fun d => sz (W s).1 - 1 - d) (St (srcAt (W s).1 p)) (sz (W s).1 - p) 0 0 with
          | none => exact fin0 (-2) h5 h6 (cls _ _ (fun z1 z2 z3 hPV => (hc z1 z2 z3 hPV).2 hq)) (ref.trans (hr.2 hq))
          | some qx => exact fin1 (nn qx.1) (nn (qx.2 - 1)).toInt64 h6 (cls _ _ (fun z1 z2 z3 hPV => (hc z1 z2 z3 hPV).1 qx.1 qx.2 hq)) (ref.trans (hr.1 qx.1 qx.2 hq))
        · skip
          have hc := fun {G2 c2 b2 lv2 pg2 w} (z1 : Cl G2 c2 b2 (3016 * (4 * (k + 1) + a.2.1)) (a.1, a.2.1, 0, a.2.2.2) ro st (s, u, f, lv2) ke pg2 qg sc W) (z2 : PgTo pg2 (W s).1 St (sz (W s).1)) (z3 : Fo G c G2 c2) (hPV : PV G2 (sz (W s).1) (fun p => St (srcAt (W s).1 p)) w) => pair6d z1 z2 z3 hPV hv128 hk6 (p + 1) FU 0 0 (by omega) (by rw [FU_eq]; omega) (by omega) (by omega) (fun _ => ⟨by omega, by rw [Nat.add_sub_cancel]⟩)
          have hr := pair7d hRV hRB rfl hv128 hk6 (p + 1) FU 0 0 (by omega) (by rw [FU_eq]; omega) (by omega) (by omega) (fun _ => ⟨by omega, by rw [Nat.add_sub_cancel]⟩)
          have hX : nn p = nn (p + 1) - 1 := by rw [q1, nn_sub (by omega), Nat.add_sub_cancel]
          have cls : ∀ r ro1, (∀ {G2 c2 b2 lv2 pg2 w}, Cl G2 c2 b2 (3016 * (4 * (k + 1) + a.2.1)) (a.1, a.2.1, 0, a.2.2.2) ro st (s, u, f, lv2) ke pg2 qg sc W → PgTo pg2 (W s).1 St (sz (W s).1) → Fo G c G2 c2 → PV G2 (sz (W s).1) (fun p => St (srcAt (W s).1 p)) w → ok (fX6_pair_b58 FU G2 0 20 (nn (St (srcAt (W s).1 p))) (nn (prt (St (srcAt (W s).1 p)))) (-1 : Int32) (nn 0) (nn 0) (nn (p + 1) - 1)) (CQ G c (3016 * (4 * (k + 1) + a.2.1)) a a.2.1 ro1 st s u f ke W St r)) → ok (fX6_pair G 0 (nn p)) (CQ G c (3016 * (4 * (k + 1) + a.2.1)) a a.2.1 ro1 st s u f ke W St r) := by
            intro r ro1 H
            unfold fX6_pair
            refine sa1 h1.1.io0 ?_
            refine page_open h1 h5 (Fo.refl _ _) ?_
            intro G2 c2 b2 lv2 pg2 z1 z2 z3 hPV
            refine sa1 hPV.1 ?_
            refine sa1 (hPV.has hp) ?_
            refine ifn (by rw [if_pos e]; decide) ?_
            refine sa1 hPV.1 ?_
            refine sa1 (hPV.2.2.1 p e) ?_
            refine sa1 (partnerOf6 _ hv128) ?_
            refine ifn (by show ¬ nn (prt (St (srcAt (W s).1 p))) = 0; rw [q0, nn_eq (by have := prt_lt _ hv128; omega) (by omega)]; exact hp0) ?_
            refine sa1 (opensPair6 _ hv128) ?_
            refine ift (by rw [if_neg (fun x => e2 x.2)]; rfl) ?_
            unfold fX6_pair_b47
            have hX' : nn p = nn (p + 1) - 1 := hX
            rw [q0, hX']
            exact H z1 z2 z3 hPV
          have ref : fX7_pair M (nn p) = fX7_pair_b52 FU (mI M 0 0) (nn (brk (St (srcAt (W s).1 p)))) (-1 : Int32) (nn 0) (nn 0) (nn (p + 1) - 1) := by
            unfold fX7_pair
            rw [zlt, isSign7_sp hRB hp, ob1_some, if_neg (by rw [if_pos e]; decide), hRV.2.1 p e, ob1_some, bracketOf7 _ hv128, ob1_some, if_neg (show ¬ brk (St (srcAt (W s).1 p)) = 6 by omega), if_pos (show (0 : Int32) ≤ nn (brk (St (srcAt (W s).1 p))) by rw [q0, nn_le (by omega) (by omega)]; omega)]
            rw [if_neg (by rw [q2, nn_div (by omega) (by omega), nn_mul, nn_sub (by omega), q0, nn_eq (by omega) (by omega)]; omega)]
            unfold fX7_pair_b42
            rw [← hX]
            rfl
          cases hq : prF (fun p => St (srcAt (W s).1 p)) (fun d => d) (St (srcAt (W s).1 p)) (p + 1) 0 0 with
          | none => exact fin0 (-2) h5 h6 (cls _ _ (fun z1 z2 z3 hPV => (hc z1 z2 z3 hPV).2 hq)) (ref.trans (hr.2 hq))
          | some qx => exact fin1 (nn qx.1) (nn (qx.2 - 1)).toInt64 h6 (cls _ _ (fun z1 z2 z3 hPV => (hc z1 z2 z3 hPV).1 qx.1 qx.2 hq)) (ref.trans (hr.1 qx.1 qx.2 hq))
    · refine fin0 (-1) h5 h6 ?_ ?_
      · unfold fX6_pair
        refine sa1 h1.1.io0 ?_
        refine page_open h1 h5 (Fo.refl _ _) ?_
        intro G2 c2 b2 lv2 pg2 z1 z2 z3 hPV
        refine sa1 hPV.1 ?_
        refine sa1 (hPV.has hp) ?_
        refine ift (by rw [if_neg e]; rfl) ?_
        exact CQ_ret z1 z3 (by omega) (fun _ => z2)
      · unfold fX7_pair
        rw [zlt, isSign7_sp hRB hp, ob1_some, if_pos (by rw [if_neg e]; rfl)]
/-- nested brackets: by steps; how many are open, the deepest, where they are -/
def nsF (t : Nat → Nat) (n : Nat) : Nat → Nat → Nat → (Nat → Nat) → Option (Nat × Nat)
  | 0, cnt, deep, stk => if cnt = 0 then none else some (stk 0, deep)
  | d + 1, cnt, deep, stk => if brk (t (n - 1 - d)) = 6 then nsF t n d cnt deep stk else if brk (t (n - 1 - d)) % 2 = 0 then nsF t n d (cnt + 1) (max deep (cnt + 1)) (va_up stk cnt (n - 1 - d)) else if cnt = 0 ∨ ¬ brk (t (stk (cnt - 1))) + 1 = brk (t (n - 1 - d)) then some (n - 1 - d, deep) else nsF t n d (cnt - 1) deep stk
theorem brk_close : ∀ v, v < 128 → ∀ v', v' < 128 → brk v < 6 → ¬ brk v % 2 = 0 → (v' = prt v ↔ brk v' + 1 = brk v) := by decide +kernel
theorem nested6 {G0 : zH} {c0 c1 b1 : Nat → Nat} {N n : Nat} {a : TA} {ro : TR} {st : TS} {s u f : Nat} {lv : Nat → Option Nat} {ke : TK} {pg qg : TP} {W : Nat → LVa} {St : Nat → Nat} (z2 : PgTo pg (W s).1 St (sz (W s).1)) (hz : sz (W s).1 ≤ 3000) (ht : ∀ p, p < sz (W s).1 → 1 ≤ St (srcAt (W s).1 p) ∧ St (srcAt (W s).1 p) ≤ 127) (hn : n = sz (W s).1) : ∀ d fu cnt deep stk G sc, d ≤ n → d < fu → cnt + d ≤ n → deep + d ≤ 3000 → cnt ≤ deep → (∀ i, i < cnt → sc i = nn (stk i) ∧ stk i < n) → Cl G c1 b1 N (a.1, a.2.1, 0, a.2.2.2) ro st (s, u, f, lv) ke pg qg sc W → Fo G0 c0 G c1 → (∀ q x, nsF (fun p => St (srcAt (W s).1 p)) n d cnt deep stk = some (q, x) → ok (fX6_nested_b12 fu G 0 20 (nn cnt) (nn deep) (nn (n - d))) (CQ G0 c0 N a a.2.1 (1, vp_updL ro.2 0 (nn x).toInt64) st s u f ke W St (nn q))) ∧ (nsF (fun p => St (srcAt (W s).1 p)) n d cnt deep stk = none → ok (fX6_nested_b12 fu G 0 20 (nn cnt) (nn deep) (nn (n - d))) (CQ G0 c0 N a a.2.1 ro st s u f ke W St (-2))) := by
  intro d
  induction d with
  | zero =>
    intro fu cnt deep stk G sc hd hfu hcd hdd hcde hsc z1 z3
    obtain ⟨fu', rfl⟩ : ∃ f', fu = f' + 1 := ⟨fu - 1, by omega⟩
    have hPV := PV_of z1.1 z2 hz ht
    simp only [nsF]
    unfold fX6_nested_b12 fX6_nested_b117
    by_cases e0 : cnt = 0
    · rw [if_pos e0]
      refine ⟨fun q x h => (by cases h), fun _ => ?_⟩
      refine sa1 hPV.2.1 ?_
      refine ift (by rw [nn_le (by omega) (by omega)]; omega) ?_
      refine ift (by rw [e0]; rfl) ?_
      exact CQ_ret z1 z3 (by omega) (fun _ => z2)
    · rw [if_neg e0]
      refine ⟨fun q x h => ?_, fun h => by cases h⟩
      cases h
      refine sa1 hPV.2.1 ?_
      refine ift (by rw [nn_le (by omega) (by omega)]; omega) ?_
      refine ifn (by rw [q0, nn_eq (by omega) (by omega)]; exact e0) ?_
      refine sa1 z1.1.r0_2 ?_
      refine sa1 z1.1.io2 ?_
      refine ca1 (tell1_sp z1.1 z1.2.2.1 0 _) ?_
      rintro G3 ⟨g1, g2⟩
      have z4 := z1.fx g1 g2 rfl rfl
      refine sa1 z4.1.r0_12 ?_
      rw [q0]
      refine sa1 (aR_at z4.1.g26 (by omega) (by omega)) ?_
      rw [(hsc 0 (by omega)).1]
      exact CQ_ret z4 (z3.trans (g2.1.fo (by omega))) (by omega) (fun _ => z2)
  | succ d ih =>
    intro fu cnt deep stk G sc hd hfu hcd hdd hcde hsc z1 z3
    obtain ⟨fu', rfl⟩ : ∃ f', fu = f' + 1 := ⟨fu - 1, by omega⟩
    have hPV := PV_of z1.1 z2 hz ht
    have hq : n - 1 - d < sz (W s).1 := by omega
    have h7 := ht _ hq
    have hv : St (srcAt (W s).1 (n - 1 - d)) < 128 := by omega
    have hbl := brk_le (St (srcAt (W s).1 (n - 1 - d)))
    have hpz := prt_zero _ hv
    have hpl := prt_lt _ hv
    rw [show n - (d + 1) = n - 1 - d by omega]
    simp only [nsF]
    unfold fX6_nested_b12
    rw [hPV.2.1, ob1_some, if_neg (show ¬ nn (sz (W s).1) ≤ nn (n - 1 - d) by rw [nn_le (by omega) (by omega)]; omega), hPV.1, ob1_some, hPV.2.2.1 _ hq, ob1_some, partnerOf6 _ hv, ob1_some]
    have hnx : ∀ {G' : zH} {x y : Nat}, fX6_nested_b111 (fX6_nested_b12 fu') G' 0 20 (nn x) (nn y) (nn (n - 1 - d)) = fX6_nested_b12 fu' G' 0 20 (nn x) (nn y) (nn (n - d)) := by
      intro G' x y
      unfold fX6_nested_b111
      rw [zlt, q1, nn_add, show n - 1 - d + 1 = n - d by omega]
    by_cases e1 : brk (St (srcAt (W s).1 (n - 1 - d))) = 6
    · rw [if_pos e1, if_pos (show nn (prt (St (srcAt (W s).1 (n - 1 - d)))) = 0 by rw [hpz.mpr e1]; rfl), hnx]
      exact ih fu' cnt deep stk G sc (by omega) (by omega) (by omega) (by omega) hcde hsc z1 z3
    · have hp0 : ¬ prt (St (srcAt (W s).1 (n - 1 - d))) = 0 := fun h => e1 (hpz.mp h)
      rw [if_neg e1, if_neg (show ¬ nn (prt (St (srcAt (W s).1 (n - 1 - d)))) = 0 by rw [q0, nn_eq (by omega) (by omega)]; exact hp0), opensPair6 _ hv, ob1_some]
      by_cases e2 : brk (St (srcAt (W s).1 (n - 1 - d))) % 2 = 0
      · rw [if_pos e2, if_neg (show ¬ nn (if brk (St (srcAt (W s).1 (n - 1 - d))) < 6 ∧ brk (St (srcAt (W s).1 (n - 1 - d))) % 2 = 0 then 1 else 0) = 0 by rw [if_pos ⟨by omega, e2⟩]; decide)]
        rw [z1.1.r0_12, ob1_some, aW_at z1.1.g26 (show cnt < 6000 by omega) (by omega), ob1_some]
        have x1 := z1.1.u26 (upd sc cnt (nn (n - 1 - d)))
        have u1 : Up 0 G c1 0 (G.set 26 (.inl (0, (6000, .inl (upd sc cnt (nn (n - 1 - d))))))) c1 0 := Up.set z1.1.g26 rfl (z1.2.2.1 26 (by decide))
        rw [q1, nn_add, zlt, if_lt (by omega) (by omega), nn_if, zlt, show (if deep < cnt + 1 then cnt + 1 else deep) = max deep (cnt + 1) by split <;> omega, hnx]
        exact ih fu' (cnt + 1) (max deep (cnt + 1)) _ _ _ (by omega) (by omega) (by omega) (by omega) (by omega) (fun i hi => by
          by_cases ei : i = cnt
          · subst ei
            rw [upd_same, va_up_same]
            exact ⟨rfl, by omega⟩
          · rw [upd_ne _ _ ei, va_up_ne _ _ ei]
            exact hsc i (by omega)) (z1.fx x1 u1 rfl rfl) (z3.trans (u1.1.fo (by omega)))
      · rw [if_neg e2, if_pos (show nn (if brk (St (srcAt (W s).1 (n - 1 - d))) < 6 ∧ brk (St (srcAt (W s).1 (n - 1 - d))) % 2 = 0 then 1 else 0) = 0 by rw [if_neg (fun x => e2 x.2)]; rfl)]
        have b99 : ∀ {q x : Nat}, some (n - 1 - d, deep) = some (q, x) → ok (fX6_nested_b99 (fX6_nested_b12 fu') G 0 (nn deep) (nn (n - 1 - d))) (CQ G0 c0 N a a.2.1 (1, vp_updL ro.2 0 (nn x).toInt64) st s u f ke W St (nn q)) := by
          intro q x h
          cases h
          unfold fX6_nested_b99
          refine sa1 z1.1.r0_2 ?_
          refine sa1 z1.1.io2 ?_
          exact CQ_t1 z1 z3 (by omega) (fun _ => z2) _
        by_cases e3 : cnt = 0
        · rw [if_pos (Or.inl e3), if_pos (show nn cnt ≤ 0 by rw [e3]; decide)]
          exact ⟨fun q x h => b99 h, fun h => by cases h⟩
        · have hsk := hsc (cnt - 1) (by omega)
          have h8 := ht (stk (cnt - 1)) (by omega)
          rw [if_neg (show ¬ nn cnt ≤ 0 by rw [q0, nn_le (by omega) (by omega)]; omega), z1.1.r0_12, ob1_some, q1, nn_sub (by omega), aR_at z1.1.g26 (show cnt - 1 < 6000 by omega) (by omega), ob1_some, hsk.1, ob1_some, hPV.2.2.1 _ (by omega), ob1_some]
          have hbc := brk_close (St (srcAt (W s).1 (n - 1 - d))) hv (St (srcAt (W s).1 (stk (cnt - 1)))) (by omega) (by omega) e2
          by_cases e4 : St (srcAt (W s).1 (stk (cnt - 1))) = prt (St (srcAt (W s).1 (n - 1 - d)))
          · rw [if_pos (show nn (St (srcAt (W s).1 (stk (cnt - 1)))) = nn (prt (St (srcAt (W s).1 (n - 1 - d)))) by rw [e4]), if_neg (by rintro (h | h); exact e3 h; exact h (hbc.mp e4)), nn_dec1 (by omega), zlt, hnx]
            exact ih fu' (cnt - 1) deep stk G sc (by omega) (by omega) (by omega) (by omega) (by omega) (fun i hi => hsc i (by omega)) z1 z3
          · rw [if_neg (show ¬ nn (St (srcAt (W s).1 (stk (cnt - 1)))) = nn (prt (St (srcAt (W s).1 (n - 1 - d)))) by rw [nn_eq (by omega) (by omega)]; exact e4), if_pos (Or.inr (fun h => e4 (hbc.mpr h)))]
            exact ⟨fun q x h => b99 h, fun h => by cases h⟩
theorem nested7 {M0 : MS} {n ts : Nat} {ro : TR} {t : Nat → Nat} : ∀ d fu cnt deep stk M, d ≤ n → d < fu → cnt + d ≤ n → deep + d ≤ 3000 → cnt ≤ deep → (∀ i, i < cnt → M.2.1 32 i = nn (stk i) ∧ stk i < n) → Mq M0 M → M.1 4 = nn ts → RV M n t → RRo M ro → (∀ q x, nsF t n d cnt deep stk = some (q, x) → ∃ M1, fX7_nested_b11 fu M (nn cnt) (nn deep) (nn (n - d)) = some (nn q, M1) ∧ Mq M0 M1 ∧ M1.1 4 = nn ts ∧ RRo M1 (1, vp_updL ro.2 0 (nn x).toInt64)) ∧ (nsF t n d cnt deep stk = none → ∃ M1, fX7_nested_b11 fu M (nn cnt) (nn deep) (nn (n - d)) = some (-2, M1) ∧ Mq M0 M1 ∧ M1.1 4 = nn ts ∧ RRo M1 ro) := by
  intro d
  induction d with
  | zero =>
    intro fu cnt deep stk M hd hfu hcd hdd hcde hsc hq h4 hRV hro
    obtain ⟨fu', rfl⟩ : ∃ f', fu = f' + 1 := ⟨fu - 1, by omega⟩
    obtain ⟨v1, v3, v6, v7⟩ := hRV
    simp only [nsF]
    unfold fX7_nested_b11 fX7_nested_b113
    rw [v1, if_pos (show nn n ≤ nn (n - 0) by rw [nn_le (by omega) (by omega)]; omega)]
    by_cases e0 : cnt = 0
    · rw [if_pos e0, if_pos (show nn cnt = 0 by rw [e0]; rfl)]
      exact ⟨fun q x h => (by cases h), fun _ => ⟨M, rfl, hq, h4, hro⟩⟩
    · rw [if_neg e0, if_neg (show ¬ nn cnt = 0 by rw [q0, nn_eq (by omega) (by omega)]; exact e0)]
      refine ⟨fun q x h => ?_, fun h => by cases h⟩
      cases h
      rw [zlt, tl1_sp, ob1_some]
      refine ⟨tl1 M (nn deep).toInt64, ?_, hq, h4, RRo.tl1 _ _ _⟩
      show ob1 (rd 3000 (M.2.1 32) (nn 0)) _ = _
      rw [rd_nn (by omega) (by omega), ob1_some, (hsc 0 (by omega)).1]
  | succ d ih =>
    intro fu cnt deep stk M hd hfu hcd hdd hcde hsc hq h4 hRV hro
    obtain ⟨fu', rfl⟩ : ∃ f', fu = f' + 1 := ⟨fu - 1, by omega⟩
    have hRV' := hRV
    obtain ⟨v1, v3, v6, v7⟩ := hRV
    have hqn : n - 1 - d < n := by omega
    have h7 := v7 _ hqn
    have hv : t (n - 1 - d) < 128 := by omega
    have hbl := brk_le (t (n - 1 - d))
    rw [show n - (d + 1) = n - 1 - d by omega]
    simp only [nsF]
    unfold fX7_nested_b11
    rw [v1, if_neg (show ¬ nn n ≤ nn (n - 1 - d) by rw [nn_le (by omega) (by omega)]; omega), v3 _ hqn, ob1_some, bracketOf7 _ hv, ob1_some]
    have hnx : ∀ {M' : MS} {x y : Nat}, fX7_nested_b107 (fX7_nested_b11 fu') M' (nn x) (nn y) (nn (n - 1 - d)) = fX7_nested_b11 fu' M' (nn x) (nn y) (nn (n - d)) := by
      intro M' x y
      unfold fX7_nested_b107
      rw [zlt, q1, nn_add, show n - 1 - d + 1 = n - d by omega]
    by_cases e1 : brk (t (n - 1 - d)) = 6
    · rw [if_pos e1, if_pos e1, if_pos (show (-1 : Int32) < 0 by decide)]
      unfold fX7_nested_b60
      rw [if_pos (show (-1 : Int32) < 0 by decide), hnx]
      exact ih fu' cnt deep stk M (by omega) (by omega) (by omega) (by omega) hcde hsc hq h4 hRV' hro
    · rw [if_neg e1, if_neg e1, if_neg (show ¬ nn (brk (t (n - 1 - d))) < 0 by rw [nn_neg (by omega)]; exact id)]
      by_cases e2 : brk (t (n - 1 - d)) % 2 = 0
      · rw [if_pos e2, if_pos (show nn (brk (t (n - 1 - d))) - nn (brk (t (n - 1 - d))) / 2 * 2 = 0 by rw [q2, nn_div (by omega) (by omega), nn_mul, nn_sub (by omega), q0, nn_eq (by omega) (by omega)]; omega), wr_nn (show cnt < 3000 by omega) (by omega), ob1_some, nn_tn (by omega), q1, nn_add, zlt, if_lt (by omega) (by omega), nn_if, zlt, show (if deep < cnt + 1 then cnt + 1 else deep) = max deep (cnt + 1) by split <;> omega, hnx]
        exact ih fu' (cnt + 1) (max deep (cnt + 1)) _ _ (by omega) (by omega) (by omega) (by omega) (by omega) (fun i hi => by
          show upd (M.2.1 32) cnt (nn (n - 1 - d)) i = _ ∧ _
          by_cases ei : i = cnt
          · subst ei
            rw [upd_same, va_up_same]
            exact ⟨rfl, by omega⟩
          · rw [upd_ne _ _ ei, va_up_ne _ _ ei]
            exact hsc i (by omega)) hq h4 hRV' hro
      · rw [if_neg e2, if_neg (show ¬ nn (brk (t (n - 1 - d))) - nn (brk (t (n - 1 - d))) / 2 * 2 = 0 by rw [q2, nn_div (by omega) (by omega), nn_mul, nn_sub (by omega), q0, nn_eq (by omega) (by omega)]; omega)]
        unfold fX7_nested_b60
        rw [if_neg (show ¬ nn (brk (t (n - 1 - d))) < 0 by rw [nn_neg (by omega)]; exact id)]
        have b91 : ∀ {q x : Nat}, some (n - 1 - d, deep) = some (q, x) → ∃ M1, fX7_nested_b91 (fX7_nested_b11 fu') M (nn deep) (nn (n - 1 - d)) = some (nn q, M1) ∧ Mq M0 M1 ∧ M1.1 4 = nn ts ∧ RRo M1 (1, vp_updL ro.2 0 (nn x).toInt64) := by
          intro q x h
          cases h
          unfold fX7_nested_b91
          rw [zlt, tl1_sp, ob1_some]
          exact ⟨tl1 M (nn deep).toInt64, rfl, hq, h4, RRo.tl1 _ _ _⟩
        by_cases e3 : cnt = 0
        · rw [if_pos (Or.inl e3), if_pos (show nn cnt = 0 by rw [e3]; rfl)]
          exact ⟨fun q x h => b91 h, fun h => by cases h⟩
        · have hsk := hsc (cnt - 1) (by omega)
          have h8 := v7 (stk (cnt - 1)) (by omega)
          have hbl2 := brk_le (t (stk (cnt - 1)))
          rw [if_neg (show ¬ nn cnt = 0 by rw [q0, nn_eq (by omega) (by omega)]; exact e3), q1, nn_sub (by omega), rd_nn (show cnt - 1 < 3000 by omega) (by omega), ob1_some, hsk.1, v3 _ (by omega), ob1_some, bracketOf7 _ (by omega), ob1_some, nn_sub (by omega)]
          by_cases e4 : brk (t (stk (cnt - 1))) + 1 = brk (t (n - 1 - d))
          · rw [if_neg (show ¬ brk (t (stk (cnt - 1))) = 6 by omega), if_pos (show nn (brk (t (stk (cnt - 1)))) = nn (brk (t (n - 1 - d)) - 1) by congr 1; omega), if_neg (by rintro (h | h); exact e3 h; exact h e4), nn_dec1 (by omega), zlt, hnx]
            exact ih fu' (cnt - 1) deep stk M (by omega) (by omega) (by omega) (by omega) (by omega) (fun i hi => hsc i (by omega)) hq h4 hRV' hro
          · rw [if_pos (Or.inr e4), if_neg (show ¬ (if brk (t (stk (cnt - 1))) = 6 then (-1 : Int32) else nn (brk (t (stk (cnt - 1))))) = nn (brk (t (n - 1 - d)) - 1) by
              by_cases e5 : brk (t (stk (cnt - 1))) = 6
              · rw [if_pos e5]
                exact fun h => nn_ne_m1 (by omega) h.symm
              · rw [if_neg e5, nn_eq (by omega) (by omega)]
                omega)]
            exact ⟨fun q x h => b91 h, fun h => by cases h⟩
theorem op_nested : Op_nested Inv := by
  intro k G  hI
  refine op_fin (f6 := fX6_nested G 0) (f7 := fun M => fX7_nested M) hI ?_
  intro c bu a ro st s u f lv ke pg qg sc W M T St kd h1 h5 h6
  obtain ⟨hv, ht⟩ := h5.cur
  have hRB : RBk (mI M 0 0) (W s).1 := h6.2.2.2.1.cg rfl rfl
  have hRV := RV_of hRB (h6.2.2.1.cg rfl rfl rfl rfl : RSt (mI M 0 0) St st.1 st.2.1) hv.1 ht
  have hRV2 : RV (mI (mI M 0 0) 1 0) (sz (W s).1) (fun p => St (srcAt (W s).1 p)) := hRV
  have hs : s < 31 := h5.2.2.2.1.1
  have hz := hv.2.1
  have hmk : RMk M (W s) := h6.2.2.2.2.1
  have hc := fun {G2 c2 b2 lv2 pg2} (z1 : Cl G2 c2 b2 (3016 * (4 * (k + 1) + a.2.1)) (a.1, a.2.1, 0, a.2.2.2) ro st (s, u, f, lv2) ke pg2 qg sc W) (z2 : PgTo pg2 (W s).1 St (sz (W s).1)) (z3 : Fo G c G2 c2) => nested6 z2 hz ht rfl (sz (W s).1) FU 0 0 (fun _ => 0) G2 sc (by omega) (by rw [FU_eq]; omega) (by omega) (by omega) (by omega) (fun i hi => by omega) z1 z3
  have hr := nested7 (M0 := M) (ts := a.2.1) (ro := ro) (t := fun p => St (srcAt (W s).1 p)) (sz (W s).1) FU 0 0 (fun _ => 0) (mI M 0 0) (Nat.le_refl _) (by rw [FU_eq]; omega) (by omega) (by omega) (by omega) (fun i hi => by omega) (Mq_i0 M 0) h6.1.2 hRV h6.2.1
  rw [Nat.sub_self] at hr
  have cls : ∀ r ro1, (∀ {G2 c2 b2 lv2 pg2}, Cl G2 c2 b2 (3016 * (4 * (k + 1) + a.2.1)) (a.1, a.2.1, 0, a.2.2.2) ro st (s, u, f, lv2) ke pg2 qg sc W → PgTo pg2 (W s).1 St (sz (W s).1) → Fo G c G2 c2 → ok (fX6_nested_b12 FU G2 0 20 (nn 0) (nn 0) (nn (sz (W s).1 - sz (W s).1))) (CQ G c (3016 * (4 * (k + 1) + a.2.1)) a a.2.1 ro1 st s u f ke W St r)) → ok (fX6_nested G 0) (CQ G c (3016 * (4 * (k + 1) + a.2.1)) a a.2.1 ro1 st s u f ke W St r) := by
    intro r ro1 H
    unfold fX6_nested
    refine sa1 h1.1.io0 ?_
    refine page_open h1 h5 (Fo.refl _ _) ?_
    intro G2 c2 b2 lv2 pg2 z1 z2 z3 hPV
    have := H z1 z2 z3
    rw [Nat.sub_self] at this
    rw [q0]
    exact this
  cases hq : nsF (fun p => St (srcAt (W s).1 p)) (sz (W s).1) (sz (W s).1) 0 0 (fun _ => 0) with
  | none =>
    obtain ⟨M1, r1, r2, r3, r4⟩ := hr.2 hq
    exact ⟨-2, ro, a.2.1, M1, Nat.le_refl _, h5.2.1.2.2, cls _ _ (fun z1 z2 z3 => (hc z1 z2 z3).2 hq), r1, r2, r3, r4⟩
  | some qx =>
    obtain ⟨M1, r1, r2, r3, r4⟩ := hr.1 qx.1 qx.2 hq
    exact ⟨nn qx.1, (1, vp_updL ro.2 0 (nn qx.2).toInt64), a.2.1, M1, Nat.le_refl _, by show 1 ≤ 16; omega, cls _ _ (fun z1 z2 z3 => (hc z1 z2 z3).1 qx.1 qx.2 hq), r1, r2, r3, r4⟩
