/-! both sides by one picture -/
abbrev SS : Type := ((Nat → Nat) × (Nat → Nat) × (Nat → Nat)) × ((Nat → Int32) × Nat × Int32) × TR × TS × (Nat × Nat × Nat) × TK × (Nat → LVa)
def nl : Nat → Option Nat := fun _ => none
def np : TP := (0, fun _ => 0, fun _ => 0)
def CS (G : zH) (c : Nat → Nat) (n : Nat) : SS → Prop
  | ((_, St, _), (tx, ts, tb), ro, st, (s, u, f), ke, W) => ∃ bu old lv pg qg sc, Cl G c bu n (tx, ts, old, tb) ro st (s, u, f, lv) ke pg qg sc W ∧ old ≤ 1 ∧ (old = 0 → PgTo pg (W s).1 St (sz (W s).1))
def SA : SS → Prop
  | ((T, St, kd), (tx, ts, tb), ro, st, (s, u, f), ke, W) => Sm T St kd (tx, ts, 1, tb) ro st (s, u, f, nl) ke np W
def RfS (M : MS) (G : zH) (c : Nat → Nat) : SS → Prop
  | ((T, St, kd), (tx, ts, tb), ro, st, (s, u, f), _, W) => Rf M G c T St kd (tx, ts, 1, tb) ro st (s, u, f, nl) W
def RS (A : zH) (M : MS) (B : zH) (n : Nat) (Sf S : SS) : Prop := ∃ c, A.length = 27 ∧ CS (hG A M B) c n Sf ∧ (∃ x, (hG A M B)[49]? = some (.inl (1, (1, .inr (.inl x))))) ∧ RfS M (hG A M B) c S
def tsOf (S : SS) : Nat := S.2.1.2.1
def C6 (S S1 : SS) (r : Int32) (f : zH → Option (Int32 × zH)) : Prop := ∀ G c n, CS G c n S → ok (f G) fun z => z.1 = r ∧ ∃ c1, CS z.2 c1 n S1 ∧ Fo G c z.2 c1
def R7 (S S1 : SS) (r : Int32) (f : zH → MS → zH → Option (Int32 × MS × zH)) : Prop := ∀ A M B n Sf, RS A M B (n + 3016) Sf S → ∃ M1 K, f A M B = some (r, M1, B ++ K) ∧ RS A M1 (B ++ K) n Sf S1
section Frm
variable {T St kd : Nat → Nat} {tx : Nat → Int32} {ts : Nat} {tb : Int32} {ro : TR} {st : TS} {s u f : Nat} {ke : TK} {W : Nat → LVa}
theorem SA.sm (h : SA ((T, St, kd), (tx, ts, tb), ro, st, (s, u, f), ke, W)) {old : Nat} {lv : Nat → Option Nat} {pg : TP} (h1 : old ≤ 1) (h2 : old = 0 → PgTo pg (W s).1 St (sz (W s).1)) : Sm T St kd (tx, ts, old, tb) ro st (s, u, f, lv) ke pg W := by
  obtain ⟨s1, s2, s3, s4, s5, s6, s7⟩ := h
  exact ⟨s1, ⟨s2.1, h1, s2.2.2⟩, s3, s4, s5, s6, h2⟩
theorem SA.cur (h : SA ((T, St, kd), (tx, ts, tb), ro, st, (s, u, f), ke, W)) : (okV st.1 st.2.1 (W s) ∧ ∀ p, p < sz (W s).1 → 1 ≤ St (srcAt (W s).1 p) ∧ St (srcAt (W s).1 p) ≤ 127) ∧ s < 31 ∧ u + f ≤ 30 ∧ (SG st.2.2 St st.1 st.2.1 ∧ st.1 ≤ 1600 ∧ st.2.1 ≤ 6000) := by
  have h5 : Sm T St kd (tx, ts, 1, tb) ro st (s, u, f, nl) ke np W := h
  exact ⟨h5.cur, h5.2.2.2.1.1, h5.2.2.2.1.2, h5.2.2.1⟩
theorem CS.base {G : zH} {c : Nat → Nat} {n : Nat} {S : SS} (h : CS G c n S) : CR c ∧ 50 ≤ G.length ∧ Rm G n := by
  obtain ⟨⟨T, St, kd⟩, ⟨tx, ts, tb⟩, ro, st, ⟨s, u, f⟩, ke, W⟩ := S
  obtain ⟨bu, old, lv, pg, qg, sc, h1, -⟩ := h
  refine ⟨h1.2.2.2.1, h1.2.2.2.2.1, ?_⟩
  have := h1.2.2.2.2.2
  unfold Rm at *
  omega
theorem CS.ref {A B : zH} {M : MS} {c : Nat → Nat} {n m : Nat} {S : SS} (h : CS (hG A M B) c (n + m) S) (hA : A.length = 27) (K : zH) (M1 : MS) (k1 : zs K ≤ m) (k2 : 12 * K.length ≤ m) : CS (hG A M1 (B ++ K)) (cR c (hG A M B).length) n S := by
  obtain ⟨⟨T, St, kd⟩, ⟨tx, ts, tb⟩, ro, st, ⟨s, u, f⟩, ke, W⟩ := S
  obtain ⟨bu, old, lv, pg, qg, sc, h1, h2, h3⟩ := h
  exact ⟨bu, old, lv, pg, qg, sc, h1.ref hA (by omega) (by omega), h2, h3⟩
theorem RS.go {A B : zH} {M : MS} {n m : Nat} {Sf S : SS} (h : RS A M B (n + m) Sf S) : ∃ c, A.length = 27 ∧ CR c ∧ 50 ≤ (hG A M B).length ∧ Rm (hG A M B) (n + m) ∧ RfS M (hG A M B) c S ∧ ∀ (K : zH) (M1 : MS), zs K ≤ m → 12 * K.length ≤ m → (∀ (q q' : Option Nat) (v : LVa), CpA (hG A M B) c q q' v → CpA (hG A M1 (B ++ K)) (cR c (hG A M B).length) q q' v) ∧ ∀ S1, RfS M1 (hG A M1 (B ++ K)) (cR c (hG A M B).length) S1 → RS A M1 (B ++ K) n Sf S1 := by
  obtain ⟨c, h1, h2, ⟨x, h3⟩, h4⟩ := h
  obtain ⟨b1, b2, b3⟩ := h2.base
  exact ⟨c, h1, b1, b2, b3, h4, fun K M1 k1 k2 => ⟨fun q q' v hq => hq.ref h1, fun S1 hS => ⟨_, h1, h2.ref h1 K M1 k1 k2, ⟨x, out_ref h3 h1⟩, hS⟩⟩⟩
theorem RS.go0 {A B : zH} {M : MS} {n : Nat} {Sf S : SS} (h : RS A M B n Sf S) : ∃ c, RfS M (hG A M B) c S ∧ ∀ M1 : MS, ∃ c1, (∀ (q q' : Option Nat) (v : LVa), CpA (hG A M B) c q q' v → CpA (hG A M1 B) c1 q q' v) ∧ ∀ S1, RfS M1 (hG A M1 B) c1 S1 → RS A M1 B n Sf S1 := by
  have h' : RS A M B (n + 0) Sf S := h
  obtain ⟨c, -, -, -, -, h6, hgo⟩ := h'.go
  refine ⟨c, h6, fun M1 => ⟨cR c (hG A M B).length, ?_⟩⟩
  have := hgo [] M1 (Nat.le_refl _) (Nat.le_refl _)
  rw [List.append_nil] at this
  exact this
theorem RS.less {A B : zH} {M : MS} {n n' : Nat} {Sf S : SS} (h : RS A M B n Sf S) (hn : n' ≤ n) : RS A M B n' Sf S := by
  obtain ⟨c, h1, h2, h3, h4⟩ := h
  obtain ⟨⟨T, St, kd⟩, ⟨tx, ts, tb⟩, ro, st, ⟨s, u, f⟩, ke, W⟩ := Sf
  obtain ⟨bu, old, lv, pg, qg, sc, h5, h6⟩ := h2
  exact ⟨c, h1, ⟨bu, old, lv, pg, qg, sc, h5.less hn, h6⟩, h3, h4⟩
def Fe (M M1 : MS) : Prop := (M1.1 1 = M.1 1 ∧ M1.1 4 = M.1 4 ∧ M1.1 17 = M.1 17 ∧ M1.1 20 = M.1 20) ∧ M1.2.1 3 = M.2.1 3 ∧ M1.2.2 = M.2.2
theorem Fe.refl (M : MS) : Fe M M := ⟨⟨rfl, rfl, rfl, rfl⟩, rfl, rfl⟩
theorem Fe.trans {M M1 M2 : MS} (h : Fe M M1) (h2 : Fe M1 M2) : Fe M M2 := ⟨⟨h2.1.1.trans h.1.1, h2.1.2.1.trans h.1.2.1, h2.1.2.2.1.trans h.1.2.2.1, h2.1.2.2.2.trans h.1.2.2.2⟩, h2.2.1.trans h.2.1, h2.2.2.trans h.2.2⟩
theorem RS.upd {A B : zH} {M M1 : MS} {n : Nat} {Sf : SS} (h : RS A M B n Sf ((T, St, kd), (tx, ts, tb), ro, st, (s, u, f), ke, W)) (hs : s < 31) (huf : u + f ≤ 30) (hF : Fe M M1) {St1 : Nat → Nat} {st1 : TS} {tb1 : Int32} {W1 : Nat → LVa} (hSt : RSt M1 St1 st1.1 st1.2.1) (hB : RBk M1 (W1 s).1) (hM : RMk M1 (W1 s)) (hTy : RTy M1 tb1) (hW : ∀ i, i < 34 → i ≠ s → W1 i = W i) : RS A M1 B n Sf ((T, St1, kd), (tx, ts, tb1), ro, st1, (s, u, f), ke, W1) := by
  obtain ⟨c, h6, hgo⟩ := h.go0
  obtain ⟨c1, hcp, hfin⟩ := hgo M1
  obtain ⟨r1, r2, r3, r4, r5, ⟨r6, r7, r8, r9⟩, r10, r11⟩ := h6
  obtain ⟨⟨f1, f4, f17, f20⟩, f3, f2⟩ := hF
  refine hfin _ ⟨⟨fun i hi => by rw [f3]; exact r1.1 i hi, f4.trans r1.2⟩, ⟨f1.trans r2.1, fun j hj => by rw [f2]; exact r2.2 j hj⟩, hSt, hB, hM, ⟨f17.trans r6, f20.trans r7, fun k hk => ?_, fun k hk => ?_⟩, fun j hj => ?_, hTy⟩
  · have hk' : k < u := hk
    show CpA _ _ (M1.2.2.2 15 k) (M1.2.2.2 16 k) (W1 ((s + 31 - u + k) % 31))
    rw [f2, hW _ (by omega) (by omega)]
    exact hcp _ _ _ (r8 k hk)
  · have hk' : k < f := hk
    show CpA _ _ (M1.2.2.2 18 k) (M1.2.2.2 19 k) (W1 ((s + f - k) % 31))
    rw [f2, hW _ (by omega) (by omega)]
    exact hcp _ _ _ (r9 k hk)
  · rw [f2, hW _ (by omega) (by omega)]
    exact ⟨(r10 j hj).1, fun e => hcp _ _ _ ((r10 j hj).2 e)⟩
theorem SA.upd (h : SA ((T, St, kd), (tx, ts, tb), ro, st, (s, u, f), ke, W)) {St1 : Nat → Nat} {st1 : TS} {tb1 : Int32} {W1 : Nat → LVa} (hV : okV st1.1 st1.2.1 (W1 s)) (hW : ∀ i, i < 34 → i ≠ s → W1 i = W i) (hst : SG st1.2.2 St1 st1.1 st1.2.1 ∧ st1.1 ≤ 1600 ∧ st1.2.1 ≤ 6000) (h1 : st.1 ≤ st1.1) (h2 : st.2.1 ≤ st1.2.1) : SA ((T, St1, kd), (tx, ts, tb1), ro, st1, (s, u, f), ke, W1) := by
  obtain ⟨s1, s2, s3, s4, s5, s6, s7⟩ := h
  have hs : s < 31 := s4.1
  refine ⟨s1, s2, hst, s4, fun i hi hw => ?_, fun j hj => ?_, fun e => by cases e⟩
  · by_cases e : i = s
    · subst e
      exact hV
    · rw [hW i (by omega) e]
      exact okV_more (s5 i hi hw) h1 h2
  · obtain ⟨t1, t2, t3⟩ := s6 j hj
    refine ⟨t1, t2, fun hk => ?_⟩
    rw [hW _ (by omega) (by omega)]
    exact ⟨okV_more (t3 hk).1 h1 h2, (t3 hk).2⟩
theorem SA.edit (h : SA ((T, St, kd), (tx, ts, tb), ro, st, (s, u, f), ke, W)) : SA ((T, St, kd), (tx, ts, -1), ro, st, ((s + 1) % 31, min (u + 1) 30, 0), ke, va_up W ((s + 1) % 31) (W s)) := by
  obtain ⟨s1, s2, s3, s4, s5, s6, s7⟩ := h
  have hs : s < 31 := s4.1
  have huf : u + f ≤ 30 := s4.2
  have hV := s5 s hs (Or.inl (by show (s + 31 - s) % 31 ≤ f; omega))
  have hWn : ∀ i, i ≠ (s + 1) % 31 → va_up W ((s + 1) % 31) (W s) i = W i := fun i hi => if_neg hi
  refine ⟨s1, s2, s3, ⟨by show (s + 1) % 31 < 31; omega, by show min (u + 1) 30 + 0 ≤ 30; omega⟩, fun i hi hw => ?_, fun j hj => ?_, fun e => by cases e⟩
  · change (i + 31 - (s + 1) % 31) % 31 ≤ 0 ∨ ((s + 1) % 31 + 31 - i) % 31 ≤ min (u + 1) 30 at hw
    by_cases e : i = (s + 1) % 31
    · subst e
      rw [va_up_same]
      exact hV
    · rw [hWn i e]
      refine s5 i hi (Or.inr ?_)
      show (s + 31 - i) % 31 ≤ u
      omega
  · obtain ⟨t1, t2, t3⟩ := s6 j hj
    refine ⟨t1, t2, fun hk => ?_⟩
    rw [hWn (31 + j) (by omega)]
    exact t3 hk
theorem RS.edit {A B : zH} {M : MS} {n : Nat} {Sf : SS} (h : RS A M B (n + 3016) Sf ((T, St, kd), (tx, ts, tb), ro, st, (s, u, f), ke, W)) (hA : SA ((T, St, kd), (tx, ts, tb), ro, st, (s, u, f), ke, W)) : ∃ M1 K, fX7_edits A M B = some (M1, B ++ K) ∧ Mg M M1 ∧ M1.1 21 = -5 ∧ RS A M1 (B ++ K) n Sf ((T, St, kd), (tx, ts, -1), ro, st, ((s + 1) % 31, min (u + 1) 30, 0), ke, va_up W ((s + 1) % 31) (W s)) := by
  obtain ⟨s1, s2, s3, s4, s5, s6, s7⟩ := hA
  have hs : s < 31 := s4.1
  have huf : u + f ≤ 30 := s4.2
  obtain ⟨c, y2, hcr, h50, hrm, h6, hgo⟩ := h.go
  obtain ⟨r1, r2, r3, r4, r5, ⟨r6, r7, r8, r9⟩, r10, r11⟩ := h6
  have hsz : sz (W s).1 ≤ 3000 := (s5 s hs (Or.inl (by show (s + 31 - s) % 31 ≤ f; omega))).2.1
  have hr1 : zs (hG A M B) + (n + 3016) ≤ zKL := hrm.1
  have hr2 : 12 * (hG A M B).length + (n + 3016) ≤ 12 * zGL := hrm.2
  have hold : u = 30 → ∀ k, k < 30 → ∃ r r' z z', M.2.2.2 15 k = some r ∧ M.2.2.2 16 k = some r' ∧ (∀ M' : MS, gget (hG A M' B) r = some z) ∧ ∀ M' : MS, gget (hG A M' B) r' = some z' := by
    intro hu k hk
    obtain ⟨h, h', g, g', q1, q2, q3, q4, ⟨q5, q6, q7, q8⟩, q9⟩ := r8 k (by show k < u; omega)
    refine ⟨h, h', (sz (W ((s + 31 - u + k) % 31)).1, g), (16, g'), q1, q2, fun M' => ?_, fun M' => ?_⟩
    · have := hG_other (K := []) (M := M) (M' := M') y2 (j := h) (Or.inr (by omega)) (G_lt q3)
      rw [List.append_nil] at this
      rw [← this] at q3
      exact gget_at q3
    · have := hG_other (K := []) (M := M) (M' := M') y2 (j := h') (Or.inr (by omega)) (G_lt q4)
      rw [List.append_nil] at this
      rw [← this] at q4
      exact gget_at q4
  obtain ⟨M1, g, g', d1, d2, d3, d4, d5, d6⟩ := edits_sp (A := A) (B := B) (v := W s) (u := u) r4 r5 r6 (by omega) hold (by omega) (Nat.le_trans (Nat.add_le_add_left (Nat.le_add_left 3016 n) _) hr1)
  have hl := hG_len A M B
  have hzK : zs [KB (W s).1 g, KM g'] = sz (W s).1 + 16 := by
    show sz (W s).1 + (16 + 0) = _
    omega
  have hWn : ∀ i, i ≠ (s + 1) % 31 → va_up W ((s + 1) % 31) (W s) i = W i := fun i hi => if_neg hi
  obtain ⟨hcp, hfin⟩ := hgo [KB (W s).1 g, KM g'] M1 (by rw [hzK]; omega) (by show 12 * 2 ≤ 3016; omega)
  obtain ⟨p1, p2, p3, p4, p5, p6, p7⟩ := d5
  refine ⟨M1, _, d1, d4, d6, hfin _ ⟨⟨fun i hi => by rw [d4.2.1]; exact r1.1 i hi, (d4.1 4 (by decide) (by decide) (by decide)).trans r1.2⟩, ⟨(d4.1 1 (by decide) (by decide) (by decide)).trans r2.1, fun j hj => by rw [d4.2.2]; exact r2.2 j hj⟩, r3.cg (d4.1 8 (by decide) (by decide) (by decide)) (d4.1 9 (by decide) (by decide) (by decide)) (by rw [d4.2.1]) (by rw [d4.2.1]), ?_, ?_, ⟨p1, p2, fun j hj => ?_, fun j hj => ?_⟩, fun j hj => ?_, Or.inl ⟨rfl, d6⟩⟩⟩
  · show RBk M1 (va_up W ((s + 1) % 31) (W s) ((s + 1) % 31)).1
    rw [va_up_same]
    exact r4.cg (d4.1 11 (by decide) (by decide) (by decide)) (by rw [d4.2.1])
  · show RMk M1 (va_up W ((s + 1) % 31) (W s) ((s + 1) % 31))
    rw [va_up_same]
    intro k hk
    rw [d4.2.1]
    exact r5 k hk
  · change j < min (u + 1) 30 at hj
    show CpA _ _ (M1.2.2.2 15 j) (M1.2.2.2 16 j) (va_up W ((s + 1) % 31) (W s) (((s + 1) % 31 + 31 - min (u + 1) 30 + j) % 31))
    rw [hWn _ (by omega)]
    by_cases e : j + 1 < min (u + 1) 30
    · rw [(p3 j e).1, (p3 j e).2]
      have := hcp _ _ _ (r8 (j + (u + 1 - min (u + 1) 30)) (by show _ < u; omega))
      rw [show ((s + 1) % 31 + 31 - min (u + 1) 30 + j) % 31 = (s + 31 - u + (j + (u + 1 - min (u + 1) 30))) % 31 by omega]
      exact this
    · have ej : j = min (u + 1) 30 - 1 := by omega
      subst ej
      rw [p4, p5, show ((s + 1) % 31 + 31 - min (u + 1) 30 + (min (u + 1) 30 - 1)) % 31 = s by omega]
      refine ⟨(hG A M B).length, (hG A M B).length + 1, g, g', rfl, rfl, hG_at0 hl, ?_, ⟨if_neg (by omega), if_neg (by omega), by omega, by omega⟩, d2, d3⟩
      have := hG_at0 (A := A) (B := B ++ [KB (W s).1 g]) (K := []) (M := M1) (x := KM g') (r := (hG A M B).length + 1) (by rw [hl]; simp only [List.length_append, List.length_cons, List.length_nil]; omega)
      rw [List.append_assoc] at this
      exact this
  · have : j < 0 := hj
    omega
  · rw [p6, p7]
    obtain ⟨t1, t2⟩ := r10 j hj
    refine ⟨t1, fun h => ?_⟩
    rw [hWn (31 + j) (by omega)]
    exact hcp _ _ _ (t2 h)
end Frm
theorem RS.i0 {A B : zH} {M : MS} {n : Nat} {Sf S : SS} (h : RS A M B n Sf S) : RS A (mI M 0 0) B n Sf S := by
  obtain ⟨c, h6, hgo⟩ := h.go0
  obtain ⟨c1, hcp, hfin⟩ := hgo (mI M 0 0)
  obtain ⟨⟨T, St, kd⟩, ⟨tx, ts, tb⟩, ro, st, ⟨s, u, f⟩, ke, W⟩ := S
  obtain ⟨r1, r2, r3, r4, r5, ⟨r6, r7, r8, r9⟩, r10, r11⟩ := h6
  exact hfin _ ⟨r1, r2, r3.cg rfl rfl rfl rfl, r4.cg rfl rfl, r5, ⟨r6, r7, fun k hk => hcp _ _ _ (r8 k hk), fun k hk => hcp _ _ _ (r9 k hk)⟩, fun j hj => ⟨(r10 j hj).1, fun e => hcp _ _ _ ((r10 j hj).2 e)⟩, r11⟩
theorem C6.ret {S : SS} {r : Int32} {G : zH} {c : Nat → Nat} {n : Nat} (h : CS G c n S) : ok (some (r, G)) fun z => z.1 = r ∧ ∃ c1, CS z.2 c1 n S ∧ Fo G c z.2 c1 := ok_some ⟨rfl, c, h, Fo.refl _ _⟩
theorem R7.ret {S : SS} {r : Int32} {f : zH → MS → zH → Option (Int32 × MS × zH)} (H : ∀ A M B n Sf, RS A M B n Sf S → f A M B = some (r, M, B)) : R7 S S r f := by
  intro A M B n Sf h
  refine ⟨M, [], ?_, ?_⟩
  · rw [List.append_nil]
    exact H A M B _ Sf h
  · rw [List.append_nil]
    exact h.less (by omega)
theorem R7.i0 {S S1 : SS} {r : Int32} {f : zH → MS → zH → Option (Int32 × MS × zH)} (h : R7 S S1 r f) : R7 S S1 r (fun A M B => zlet (mI M 0 (0 : Int32)) fun M1 => ob3 (f A M1 B) fun v4 M2 B3 => some (v4, M2, B3)) := by
  intro A M B n Sf hR
  obtain ⟨M1, K, e, hR1⟩ := h A (mI M 0 0) B n Sf hR.i0
  refine ⟨M1, K, ?_, hR1⟩
  show zlet (mI M 0 (0 : Int32)) _ = _
  rw [zlt, e, ob3_some]
theorem RS.fin {A B : zH} {M : MS} {n k : Nat} {S : SS} (h : RS A M B n S S) (hS : SA S) (hn : 3016 * (4 * k + tsOf S) ≤ n) : Inv k (hG A M B) := by
  obtain ⟨⟨T, St, kd⟩, ⟨tx, ts, tb⟩, ro, st, ⟨s, u, f⟩, ke, W⟩ := S
  obtain ⟨c, h1, ⟨bu, old, lv, pg, qg, sc, h5, h6, h7⟩, h3, h4⟩ := h
  exact ⟨c, bu, (tx, ts, old, tb), ro, st, (s, u, f, lv), ke, pg, qg, sc, W, M, A, B, T, St, kd, h5.less hn, rfl, h1, h3, hS.sm h6 h7, h4⟩
theorem op_act {f6 : zH → Option (Int32 × zH)} {f7 : zH → MS → zH → Option (Int32 × MS × zH)} {k : Nat} {G : zH} (hI : Inv (k + 1) G) (H : ∀ S, SA S → ∃ S1 r, SA S1 ∧ C6 S S1 r f6 ∧ R7 S S1 r f7 ∧ tsOf S1 ≤ tsOf S) : ∃ (r : Int32) (G1 A : zH) (M : MS) (B : zH) (M1 : MS) (B1 : zH), f6 G = some (r, G1) ∧ G1 = hG A M B ∧ A.length = 27 ∧ f7 A M B = some (r, M1, B1) ∧ Inv k (hG A M1 B1) := by
  obtain ⟨c, bu, a, ro, st, ⟨s, u, f, lv⟩, ke, pg, qg, sc, W, M, A, B, T, St, kd, h1, h2, h3, ⟨x, h4⟩, h5, h6⟩ := hI
  obtain ⟨S1, r, hS1, hC, hR, hts⟩ := H ((T, St, kd), (a.1, a.2.1, a.2.2.2), ro, st, (s, u, f), ke, W) ⟨h5.1, ⟨h5.2.1.1, by show 1 ≤ 1; omega, h5.2.1.2.2⟩, h5.2.2.1, h5.2.2.2.1, h5.2.2.2.2.1, h5.2.2.2.2.2.1, fun e => by cases e⟩
  obtain ⟨⟨r', G1⟩, e6, hr, c1, x1, x2⟩ := hC G c _ ⟨bu, a.2.2.1, lv, pg, qg, sc, h1, h5.2.1.2.1, h5.2.2.2.2.2.2⟩
  change r' = r at hr
  subst hr
  have x2' := x2
  rw [h2] at x2'
  obtain ⟨A1, B1, e1, e2⟩ := fo_hG h3 x2' h1.2.2.2.1
  change G1 = hG A1 M B1 at e1
  have hcp : ∀ {q q' : Option Nat} {v : LVa}, CpA G c q q' v → CpA (hG A1 M B1) c1 q q' v := by
    intro q q' v h
    have := h.fo x2
    rw [← e1]
    exact this
  obtain ⟨r1, r2, r3, r4, r5, ⟨r6, r7, r8, r9⟩, r10, r11⟩ := h6
  have hx1 : (hG A1 M B1)[49]? = some (.inl (1, (1, .inr (.inl x)))) := by
    rw [← e1]
    exact (x2.2.2 49 (G_lt h4) (h1.2.2.2.1 49 (by omega) (by omega))).trans h4
  have x1' : CS (hG A1 M B1) c1 (3016 * (4 * (k + 1) + a.2.1)) S1 := by rw [← e1]; exact x1
  have hRS : RS A1 M B1 (3016 * (4 * (k + 1) + a.2.1)) S1 ((T, St, kd), (a.1, a.2.1, a.2.2.2), ro, st, (s, u, f), ke, W) := ⟨c1, e2, x1', ⟨x, hx1⟩, r1, r2, r3, r4, r5, ⟨r6, r7, fun j hj => hcp (r8 j hj), fun j hj => hcp (r9 j hj)⟩, fun j hj => ⟨(r10 j hj).1, fun e => hcp ((r10 j hj).2 e)⟩, r11⟩
  rw [show 3016 * (4 * (k + 1) + a.2.1) = 3016 * (4 * k + a.2.1 + 3) + 3016 by omega] at hRS
  obtain ⟨M1, K, e7, hR1⟩ := hR A1 M B1 _ S1 hRS
  have hts' : tsOf S1 ≤ a.2.1 := hts
  exact ⟨r', G1, A1, M, B1, M1, B1 ++ K, e6, e1, e2, e7, hR1.fin hS1 (by omega)⟩
theorem RS.cur {T St kd : Nat → Nat} {tx : Nat → Int32} {ts : Nat} {tb : Int32} {ro : TR} {st : TS} {s u f : Nat} {ke : TK} {W : Nat → LVa} {A B : zH} {M : MS} {n : Nat} {Sf : SS} (h : RS A M B n Sf ((T, St, kd), (tx, ts, tb), ro, st, (s, u, f), ke, W)) : RSt M St st.1 st.2.1 ∧ RBk M (W s).1 ∧ RMk M (W s) ∧ RTy M tb ∧ RTx M T ts ∧ M.1 17 = nn u ∧ M.1 20 = nn f := by
  obtain ⟨c, h6, -⟩ := h.go0
  obtain ⟨r1, r2, r3, r4, r5, ⟨r6, r7, r8, r9⟩, r10, r11⟩ := h6
  exact ⟨r3, r4, r5, r11, r1, r6, r7⟩
theorem va_va_at {α : Type} (f : Nat → α) {k : Nat} (x y : α) : ∀ i, i < 34 → i ≠ k → va_up f k x i = va_up f k y i := fun _ _ hi => (if_neg hi).trans (if_neg hi).symm
theorem Fb.fe {M M1 : MS} (h : Fb M M1) : Fe M M1 := ⟨⟨h.1 1 (by decide), h.1 4 (by decide), h.1 17 (by decide), h.1 20 (by decide)⟩, h.2.1 3 (by decide), h.2.2⟩
theorem Fb.rst {M M1 : MS} {St : Nat → Nat} {on an : Nat} (h : Fb M M1) (hS : RSt M St on an) : RSt M1 St on an := hS.cg (h.1 8 (by decide)) (h.1 9 (by decide)) (h.2.1 6 (by decide)) (h.2.1 7 (by decide))
/-! the same, and what the acts of a day lie in stays -/
def Fk (M M1 : MS) : Prop := M1.1 29 = M.1 29 ∧ ∀ j, 25 ≤ j → j ≤ 28 → M1.2.1 j = M.2.1 j
theorem Fk.refl (M : MS) : Fk M M := ⟨rfl, fun _ _ _ => rfl⟩
theorem Fk.trans {M M1 M2 : MS} (h : Fk M M1) (h2 : Fk M1 M2) : Fk M M2 := ⟨h2.1.trans h.1, fun j a b => (h2.2 j a b).trans (h.2 j a b)⟩
theorem Mg.fk {M M1 : MS} (h : Mg M M1) : Fk M M1 := ⟨h.1 29 (by decide) (by decide) (by decide), fun j _ _ => by rw [h.2.1]⟩
theorem Fb.fk {M M1 : MS} (h : Fb M M1) : Fk M M1 := ⟨h.1 29 (by decide), fun j a b => h.2.1 j (by omega)⟩
theorem Ft.fk {M M1 : MS} (h : Ft M M1) : Fk M M1 := ⟨h.1 29 (by decide), fun j a b => h.2.1 j (by omega) (by omega)⟩
def Kt (S S1 : SS) : Prop := S1.1.1 = S.1.1 ∧ S1.2.1.1 = S.2.1.1 ∧ tsOf S1 ≤ tsOf S
def R7f (S S1 : SS) (r : Int32) (f : zH → MS → zH → Option (Int32 × MS × zH)) : Prop := ∀ A M B n Sf, RS A M B (n + 3016) Sf S → ∃ M1 K, f A M B = some (r, M1, B ++ K) ∧ RS A M1 (B ++ K) n Sf S1 ∧ Fk M M1
theorem R7f.to {S S1 : SS} {r : Int32} {f : zH → MS → zH → Option (Int32 × MS × zH)} (h : R7f S S1 r f) : R7 S S1 r f := by
  intro A M B n Sf hR
  obtain ⟨M1, K, a, b, c⟩ := h A M B n Sf hR
  exact ⟨M1, K, a, b⟩
theorem R7f.ret {S : SS} {r : Int32} {f : zH → MS → zH → Option (Int32 × MS × zH)} (H : ∀ A M B n Sf, RS A M B n Sf S → f A M B = some (r, M, B)) : R7f S S r f := by
  intro A M B n Sf h
  refine ⟨M, [], ?_, ?_, Fk.refl _⟩
  · rw [List.append_nil]
    exact H A M B _ Sf h
  · rw [List.append_nil]
    exact h.less (by omega)
def AF (f6 : zH → Option (Int32 × zH)) (f7 : zH → MS → zH → Option (Int32 × MS × zH)) : Prop := ∀ S, SA S → ∃ S1 r, SA S1 ∧ C6 S S1 r f6 ∧ R7f S S1 r f7 ∧ Kt S S1
