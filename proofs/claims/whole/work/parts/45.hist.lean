/-! the ring -/
theorem floorMod_sp : ∀ s, s < 31 → ∀ k, k < 31 → fJ9_floorMod_7cf53 (nn s - nn k) 31 = some (nn ((s + 31 - k) % 31)) := by decide +kernel
theorem next31 : ∀ s, s < 31 → (nn s + 1) - (nn s + 1) / 31 * 31 = nn ((s + 1) % 31) := by decide +kernel
theorem Cl.newl {G G1 G2 : zH} {c c1 bu : Nat → Nat} {n : Nat} {a : TA} {ro : TR} {st : TS} {hi hi' : TH} {ke ke' : TK} {pg qg : TP} {sc : Nat → Int32} {W : Nat → LVa} (h : Cl G c bu n a ro st hi ke pg qg sc W) {i r b' : Nat} (hi36 : i < 36) (u1 : Up (i + 1) G c (bu i) G1 c1 b') (l1 : Lf G1 c1 (i + 1) r b' (W i).1 (W i).2.1 (W i).2.2) (u2 : Up 0 G1 c1 0 G2 c1 0) (hx2 : FX G2 a ro st hi' ke' pg qg sc) (e : hvf hi'.2.2.2 ke'.1 = va_up (hvf hi.2.2.2 ke.1) i (some r)) : Cl G2 c1 (va_up bu i b') n a ro st hi' ke' pg qg sc W := by
  obtain ⟨h1, h2, h3, h4, h5, h6⟩ := h
  have hlen := u1.1.1
  have hlen2 := u2.1.1
  refine ⟨hx2, ?_, ?_, ?_, by omega, ?_⟩
  · intro j hj
    rw [e]
    by_cases e2 : j = i
    · subst e2
      rw [va_up_same, va_up_same]
      exact LfS.kept l1 u2.1 (by omega)
    · rw [va_up_ne _ _ e2, va_up_ne _ _ e2]
      exact ((h2 j hj).kept u1.1 (by omega)).kept u2.1 (by omega)
  · intro k hk
    rw [u1.1.2.1 k (by omega)]
    exact h3 k hk
  · intro k k1 k2
    rw [u1.1.2.1 k (by omega)]
    exact h4 k k1 k2
  · obtain ⟨d, d1, d2⟩ := bsum_up (b := bu) hi36
    have := u1.2
    have := u2.2
    unfold Rm at *
    rw [d2]
    omega
section Hist
variable {G : zH} {c bu : Nat → Nat} {n : Nat} {a : TA} {ro : TR} {st : TS} {s u f : Nat} {lv : Nat → Option Nat} {ke : TK} {pg qg : TP} {sc : Nat → Int32} {W : Nat → LVa}
theorem ago_sp (h : Cl G c bu n a ro st (s, u, f, lv) ke pg qg sc W) (hs : s < 31) {k : Nat} (hk : k < 31) : ok (fX1_ago G 6 (nn k)) fun z => ∃ c' bu' lv', lv' ((s + 31 - k) % 31) = some z.1 ∧ Cl z.2 c' bu' n a ro st (s, u, f, lv') ke pg qg sc W ∧ Fo G c z.2 c' ∧ ∀ j r, lv j = some r → lv' j = some r := by
  have hx := h.1
  unfold fX1_ago
  refine sa1 (fi_at (v := nn s) hx.g6 rfl) ?_
  refine sa1 (floorMod_sp s hs k hk) ?_
  have hi : (s + 31 - k) % 31 < 31 := Nat.mod_lt _ (by omega)
  generalize (s + 31 - k) % 31 = i at *
  refine sa1 (frf_at (v := 7) hx.g6 rfl) ?_
  refine sa1 (qR_at hx.g7 hi (by omega)) ?_
  cases e : lv i with
  | some r =>
    show ok (oq (lv i) _ _) _
    rw [e]
    show ok (fX1_ago_b34 G 6 (nn i)) _
    unfold fX1_ago_b34
    refine sa1 (frf_at (v := 7) hx.g6 rfl) ?_
    refine sa1 (qR_at hx.g7 hi (by omega)) ?_
    show ok (ob1 (lv i) _) _
    rw [e]
    exact ok_some ⟨c, bu, lv, e, h, Fo.refl _ _, fun j r hj => hj⟩
  | none =>
    show ok (oq (lv i) _ _) _
    rw [e]
    have hl := h.2.1 i (by omega)
    rw [hvf_ring hi] at hl
    change LO G c (i + 1) (lv i) (bu i) (W i) at hl
    rw [e] at hl
    obtain ⟨hw, hb⟩ := hl
    obtain ⟨d, hr⟩ := h.rm (i := i) (by omega)
    have hr' := hr
    unfold Rm zKL zGL at hr'
    show ok (ob1 (frf G 6 1 0) _) _
    refine sa1 (frf_at (v := 7) hx.g6 rfl) ?_
    refine sa1 (gP_at (by unfold zGL; omega) (by unfold zKL; omega)) ?_
    refine zl ?_
    refine zl ?_
    refine ca1 (init2_sp (c := c) (i := i + 1) hb hr) ?_
    rintro G1 ⟨c1, l1, u1⟩
    have hx1 := hx.kept u1.1 (fun j hj => by rw [h.2.2.1 j hj]; omega)
    obtain ⟨hs', hl', hm', ht', cap', fs', fl', fm', ft', z1, z2⟩ := id l1
    refine sa1 (qW_at hx1.g7 z1.2.1 hi (by omega)) ?_
    have hx2 := hx1.u7 (va_up lv i (some G.length))
    have hc1 : c1 7 / 8 = 0 := by rw [u1.1.2.1 7 (G_lt hx.g7)]; exact h.2.2.1 7 (by omega)
    have u2 : Up 0 G1 c1 0 (G1.set 7 (.inl (4, (31, .inr (.inr (.inr (.inr (va_up lv i (some G.length))))))))) c1 0 := Up.set hx1.g7 rfl hc1
    unfold fX1_ago_b34
    refine sa1 (frf_at (v := 7) hx2.g6 rfl) ?_
    refine sa1 (qR_at hx2.g7 hi (by omega)) ?_
    show ok (ob1 (va_up lv i (some G.length) i) _) _
    rw [va_up_same]
    refine ok_some ⟨c1, va_up bu i (bu i - 60), va_up lv i (some G.length), va_up_same _ _ _, ?_, (u1.1.fo (by omega)).trans (u2.1.fo (by omega)), ?_⟩
    · refine h.newl (i := i) (by omega) u1 ?_ u2 hx2 (hvf_lv hi)
      rw [hw]
      exact l1
    · intro j r hj
      by_cases e2 : j = i
      · subst e2
        rw [e] at hj
        cases hj
      · rw [va_up_ne _ _ e2]
        exact hj
theorem current_sp (h : Cl G c bu n a ro st (s, u, f, lv) ke pg qg sc W) (hs : s < 31) : ok (fX1_current G 6) fun z => ∃ c' bu' lv', lv' s = some z.1 ∧ Cl z.2 c' bu' n a ro st (s, u, f, lv') ke pg qg sc W ∧ Fo G c z.2 c' ∧ ∀ j r, lv j = some r → lv' j = some r := by
  unfold fX1_current
  refine sa1 h.1.io6 ?_
  rw [q0]
  refine ca2 (ago_sp h hs (k := 0) (by omega)) ?_
  rintro r G1 ⟨c1, b1, lv1, h1, h2⟩
  rw [show (s + 31 - 0) % 31 = s by omega] at h1
  exact ok_some ⟨c1, b1, lv1, h1, h2⟩
/-- the current leaf is there already -/
theorem current_id (h : Cl G c bu n a ro st (s, u, f, lv) ke pg qg sc W) (hs : s < 31) {r : Nat} (hr : lv s = some r) : fX1_current G 6 = some (r, G) := by
  have hx := h.1
  unfold fX1_current fX1_ago
  rw [hx.io6, ob1_some, fi_at (v := nn s) hx.g6 rfl, ob1_some, q0, floorMod_sp s hs 0 (by omega), ob1_some, show (s + 31 - 0) % 31 = s by omega, frf_at (v := 7) hx.g6 rfl, ob1_some, qR_at hx.g7 hs (by omega), ob1_some]
  show ob2 (oq (lv s) _ _) _ = _
  rw [hr]
  show ob2 (fX1_ago_b34 G 6 (nn s)) _ = _
  unfold fX1_ago_b34
  rw [frf_at (v := 7) hx.g6 rfl, ob1_some, qR_at hx.g7 hs (by omega), ob1_some]
  show ob2 (ob1 (lv s) _) _ = _
  rw [hr]
  rfl
theorem Cl.lf (h : Cl G c bu n a ro st (s, u, f, lv) ke pg qg sc W) {i r : Nat} (hi : i < 31) (hr : lv i = some r) : Lf G c (i + 1) r (bu i) (W i).1 (W i).2.1 (W i).2.2 := by
  have := h.2.1 i (by omega)
  rw [hvf_ring hi] at this
  change LO G c (i + 1) (lv i) (bu i) (W i) at this
  rw [hr] at this
  exact this
theorem Cl.clip (h : Cl G c bu n a ro st (s, u, f, lv) ke pg qg sc W) : Lf G c 35 10 (bu 34) (W 34).1 (W 34).2.1 (W 34).2.2 := h.2.1 34 (by omega)
theorem Cl.trial (h : Cl G c bu n a ro st (s, u, f, lv) ke pg qg sc W) : Lf G c 36 15 (bu 35) (W 35).1 (W 35).2.1 (W 35).2.2 := h.2.1 35 (by omega)
theorem goBack_sp (h : Cl G c bu n a ro st (s, u, f, lv) ke pg qg sc W) (hs : s < 31) (hu : 1 ≤ u) : ok (fX1_goBack G 6) fun G' => Cl G' c bu n a ro st ((s + 30) % 31, u - 1, f + 1, lv) ke pg qg sc W ∧ Fo G c G' c := by
  have hx := h.1
  unfold fX1_goBack
  refine sa1 (fi_at (v := nn s) hx.g6 rfl) ?_
  rw [q1]
  refine sa1 (floorMod_sp s hs 1 (by omega)) ?_
  rw [show (s + 31 - 1) % 31 = (s + 30) % 31 by omega]
  refine sa1 (fset_at hx.g6 (by simp)) ?_
  have x1 := hx.u6 ((s + 30) % 31) u f
  refine sa1 (fi_at (v := nn u) x1.g6 rfl) ?_
  rw [nn_sub hu]
  refine sa1 (fset_at x1.g6 (by simp)) ?_
  have x2 := x1.u6 ((s + 30) % 31) (u - 1) f
  refine sa1 (fi_at (v := nn f) x2.g6 rfl) ?_
  rw [nn_add]
  refine sa1 (fset_at x2.g6 (by simp)) ?_
  have x3 := x2.u6 ((s + 30) % 31) (u - 1) (f + 1)
  have u3 := ((Up.set (b := 0) hx.g6 (e := .inr (1, [.ref 7, .int (nn ((s + 30) % 31)), .int (nn u), .int (nn f)])) rfl (h.2.2.1 6 (by decide))).trans (Up.set x1.g6 (e := .inr (1, [.ref 7, .int (nn ((s + 30) % 31)), .int (nn (u - 1)), .int (nn f)])) rfl (h.2.2.1 6 (by decide)))).trans (Up.set x2.g6 (e := .inr (1, [.ref 7, .int (nn ((s + 30) % 31)), .int (nn (u - 1)), .int (nn (f + 1))])) rfl (h.2.2.1 6 (by decide)))
  exact ok_some ⟨h.fx x3 u3 rfl rfl, u3.1.fo (by omega)⟩
theorem goOn1_sp (h : Cl G c bu n a ro st (s, u, f, lv) ke pg qg sc W) (hs : s < 31) (hf : 1 ≤ f) : ok (fX1_goOn G 6) fun G' => Cl G' c bu n a ro st ((s + 1) % 31, u + 1, f - 1, lv) ke pg qg sc W ∧ Fo G c G' c := by
  have hx := h.1
  unfold fX1_goOn
  refine sa1 (fi_at (v := nn s) hx.g6 rfl) ?_
  rw [next31 s hs]
  refine sa1 (fset_at hx.g6 (by simp)) ?_
  have x1 := hx.u6 ((s + 1) % 31) u f
  refine sa1 (fi_at (v := nn u) x1.g6 rfl) ?_
  rw [q1, nn_add]
  refine sa1 (fset_at x1.g6 (by simp)) ?_
  have x2 := x1.u6 ((s + 1) % 31) (u + 1) f
  refine sa1 (fi_at (v := nn f) x2.g6 rfl) ?_
  rw [nn_sub hf]
  refine sa1 (fset_at x2.g6 (by simp)) ?_
  have x3 := x2.u6 ((s + 1) % 31) (u + 1) (f - 1)
  have u3 := ((Up.set (b := 0) hx.g6 (e := .inr (1, [.ref 7, .int (nn ((s + 1) % 31)), .int (nn u), .int (nn f)])) rfl (h.2.2.1 6 (by decide))).trans (Up.set x1.g6 (e := .inr (1, [.ref 7, .int (nn ((s + 1) % 31)), .int (nn (u + 1)), .int (nn f)])) rfl (h.2.2.1 6 (by decide)))).trans (Up.set x2.g6 (e := .inr (1, [.ref 7, .int (nn ((s + 1) % 31)), .int (nn (u + 1)), .int (nn (f - 1))])) rfl (h.2.2.1 6 (by decide)))
  exact ok_some ⟨h.fx x3 u3 rfl rfl, u3.1.fo (by omega)⟩
theorem forget_sp (h : Cl G c bu n a ro st (s, u, f, lv) ke pg qg sc W) : ok (fX1_forget G 6) fun G' => Cl G' c bu n a ro st (s, 0, 0, lv) ke pg qg sc W ∧ Fo G c G' c := by
  have hx := h.1
  unfold fX1_forget
  rw [q0]
  refine sa1 (fset_at hx.g6 (by simp)) ?_
  have x1 := hx.u6 s 0 f
  refine sa1 (fset_at x1.g6 (by simp)) ?_
  have x2 := x1.u6 s 0 0
  have u3 := (Up.set (b := 0) hx.g6 (e := .inr (1, [.ref 7, .int (nn s), .int (nn 0), .int (nn f)])) rfl (h.2.2.1 6 (by decide))).trans (Up.set x1.g6 (e := .inr (1, [.ref 7, .int (nn s), .int (nn 0), .int (nn 0)])) rfl (h.2.2.1 6 (by decide)))
  exact ok_some ⟨h.fx x2 u3 rfl rfl, u3.1.fo (by omega)⟩
theorem beginEdit1_sp (h : Cl G c bu n a ro st (s, u, f, lv) ke pg qg sc W) (hs : s < 31) (hu : u ≤ 30) (hl : (W s).1.length ≤ 3000) (hst : ∀ k, k < 8 → (W s).2.2 k ≤ 1) : ok (fX1_beginEdit G 6) fun z => ∃ c' bu' lv', lv' ((s + 1) % 31) = some z.1 ∧ Cl z.2 c' bu' n a ro st ((s + 1) % 31, min (u + 1) 30, 0, lv') ke pg qg sc (va_up W ((s + 1) % 31) (W s)) ∧ Fo G c z.2 c' := by
  unfold fX1_beginEdit
  refine sa1 h.1.io6 ?_
  rw [q0]
  refine ca2 (ago_sp h hs (k := 0) (by omega)) ?_
  rintro r G1 ⟨c1, b1, lv1, h1, h2, f2, -⟩
  rw [show (s + 31 - 0) % 31 = s by omega] at h1
  change lv1 s = some r at h1
  change Cl G1 c1 b1 n a ro st (s, u, f, lv1) ke pg qg sc W at h2
  change Fo G c G1 c1 at f2
  have hx := h2.1
  refine sa1 (fi_at (v := nn s) hx.g6 rfl) ?_
  rw [next31 s hs]
  refine sa1 (fset_at hx.g6 (by simp)) ?_
  have x1 := hx.u6 ((s + 1) % 31) u f
  refine sa1 (fi_at (v := nn u) x1.g6 rfl) ?_
  rw [q1, nn_add, q30, if_lt (by omega) (by omega), nn_if, show (if 30 < u + 1 then 30 else u + 1) = min (u + 1) 30 by split <;> omega]
  refine sa1 (fset_at x1.g6 (by simp)) ?_
  have x2 := x1.u6 ((s + 1) % 31) (min (u + 1) 30) f
  refine sa1 (fset_at x2.g6 (by simp)) ?_
  have x3 := x2.u6 ((s + 1) % 31) (min (u + 1) 30) 0
  have u3 := ((Up.set (b := 0) hx.g6 (e := .inr (1, [.ref 7, .int (nn ((s + 1) % 31)), .int (nn u), .int (nn f)])) rfl (h2.2.2.1 6 (by decide))).trans (Up.set x1.g6 (e := .inr (1, [.ref 7, .int (nn ((s + 1) % 31)), .int (nn (min (u + 1) 30)), .int (nn f)])) rfl (h2.2.2.1 6 (by decide)))).trans (Up.set x2.g6 (e := .inr (1, [.ref 7, .int (nn ((s + 1) % 31)), .int (nn (min (u + 1) 30)), .int (nn 0)])) rfl (h2.2.2.1 6 (by decide)))
  have h3 := h2.fx x3 u3 rfl rfl
  have f3 := f2.trans (u3.1.fo (by omega))
  refine sa1 h3.1.io6 ?_
  have hs' : (s + 1) % 31 < 31 := Nat.mod_lt _ (by omega)
  refine ca2 (ago_sp h3 hs' (k := 0) (by omega)) ?_
  rintro r' G4 ⟨c4, b4, lv4, g1, g2, g3, g4⟩
  rw [show ((s + 1) % 31 + 31 - 0) % 31 = (s + 1) % 31 by omega] at g1
  change lv4 ((s + 1) % 31) = some r' at g1
  change Cl G4 c4 b4 n a ro st ((s + 1) % 31, min (u + 1) 30, 0, lv4) ke pg qg sc W at g2
  have l0 := g2.lf hs (g4 s r h1)
  have l1 := g2.lf hs' g1
  refine sa1 l1.io ?_
  obtain ⟨d, hr⟩ := g2.rm (i := (s + 1) % 31) (by omega)
  refine ca1 (become_sp l1 l0 (by omega) hst hl hr) ?_
  rintro G5 ⟨c5, b5, l5, u5⟩
  refine ok_some ⟨c5, va_up b4 ((s + 1) % 31) b5, lv4, g1, ?_, (f3.trans g3).trans (u5.1.fo (by omega))⟩
  refine g2.leaf (by omega) u5 ?_
  rw [hvf_ring hs']
  show LO G5 c5 _ (lv4 ((s + 1) % 31)) b5 (W s)
  rw [g1]
  exact l5
theorem bookIsOther_sp (h : Cl G c bu n a ro st (s, u, f, lv) ke pg qg sc W) : ok (fX6_bookIsOther G 0) fun G' => Cl G' c bu n (a.1, a.2.1, 1, -1) ro st (s, u, f, lv) ke pg qg sc W ∧ Fo G c G' c := by
  unfold fX6_bookIsOther
  obtain ⟨G1, e1, h1, u1⟩ := h.1.s0_13 h.2.2.1 0 (-1)
  refine sa1 e1 ?_
  refine sa1 (rfl : bz 1 = some 1) ?_
  rw [q1]
  obtain ⟨G2, e2, h2, u2⟩ := h1.s0_10 h.2.2.1 0 1
  refine sa1 e2 ?_
  exact ok_some ⟨h.fx h2 (u1.trans u2) rfl rfl, (u1.trans u2).1.fo (by omega)⟩
theorem beginEdit6_sp (h : Cl G c bu n a ro st (s, u, f, lv) ke pg qg sc W) (hs : s < 31) (hu : u ≤ 30) (hl : (W s).1.length ≤ 3000) (hst : ∀ k, k < 8 → (W s).2.2 k ≤ 1) : ok (fX6_beginEdit G 0) fun z => ∃ c' bu' lv', lv' ((s + 1) % 31) = some z.1 ∧ Cl z.2 c' bu' n (a.1, a.2.1, 1, -1) ro st ((s + 1) % 31, min (u + 1) 30, 0, lv') ke pg qg sc (va_up W ((s + 1) % 31) (W s)) ∧ Fo G c z.2 c' := by
  unfold fX6_beginEdit
  refine sa1 h.1.io0 ?_
  refine ca1 (bookIsOther_sp h) ?_
  rintro G1 ⟨h1, f1⟩
  refine sa1 h1.1.r0_4 ?_
  refine sa1 h1.1.io6 ?_
  refine ca2 (beginEdit1_sp h1 hs hu hl hst) ?_
  rintro r G2 ⟨c2, b2, lv2, x1, x2, x3⟩
  exact ok_some ⟨c2, b2, lv2, x1, x2, f1.trans x3⟩
end Hist
