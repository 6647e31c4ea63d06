/-! pages -/
def PgTo (pg : TP) (P : PC) (St : Nat → Nat) (m : Nat) : Prop := pg.1 = m ∧ ∀ p, p < m → pg.2.1 p = nn (St (srcAt P p)) ∧ pg.2.2 p = nn (pcAt P p)
theorem take_cons_split {P : PC} {i : Nat} {q : Nat × Nat} (hq : P[i]? = some q) : P = P.take i ++ q :: P.drop (i + 1) := by
  rw [← take_drop_cons hq, List.take_append_drop]
theorem srcAt_in {P : PC} {i j : Nat} {q : Nat × Nat} (hq : P[i]? = some q) (hj : j < q.2) : srcAt P (sz (P.take i) + j) = q.1 + j := by
  have h := take_cons_split hq
  have : srcAt P (sz (P.take i) + j) = srcAt (P.take i ++ q :: P.drop (i + 1)) (sz (P.take i) + j) := by rw [← h]
  rw [this, srcAt_app, if_neg (by omega), Nat.add_sub_cancel_left]
  simp only [srcAt]
  rw [if_pos hj]
theorem bgAt_in {P : PC} {i j : Nat} {q : Nat × Nat} (hq : P[i]? = some q) (hj : j < q.2) : bgAt P (sz (P.take i) + j) = if j = 0 then 1 else 0 := by
  have h := take_cons_split hq
  have : bgAt P (sz (P.take i) + j) = bgAt (P.take i ++ q :: P.drop (i + 1)) (sz (P.take i) + j) := by rw [← h]
  rw [this, bgAt_app, if_neg (by omega), Nat.add_sub_cancel_left]
  simp only [bgAt]
  rw [if_pos hj]
theorem pcAt_in {P : PC} {i j : Nat} {q : Nat × Nat} (hq : P[i]? = some q) (hj : j < q.2) : pcAt P (sz (P.take i) + j) = i := by
  have hil := (List.getElem?_eq_some_iff.mp hq).1
  have h := take_cons_split hq
  have : pcAt P (sz (P.take i) + j) = pcAt (P.take i ++ q :: P.drop (i + 1)) (sz (P.take i) + j) := by rw [← h]
  rw [this, pcAt_app, if_neg (by omega), Nat.add_sub_cancel_left]
  simp only [pcAt]
  rw [if_pos hj, List.length_take]
  omega
/-- each place lies in a piece -/
theorem in_piece {P : PC} {p : Nat} (hp : p < sz P) : ∃ i q j, P[i]? = some q ∧ j < q.2 ∧ p = sz (P.take i) + j := by
  induction P generalizing p with
  | nil => simp [sz] at hp
  | cons q t ih =>
    rw [sz_cons] at hp
    by_cases e : p < q.2
    · exact ⟨0, q, p, rfl, e, by simp [sz]⟩
    · obtain ⟨i, q', j, h1, h2, h3⟩ := ih (p := p - q.2) (by omega)
      refine ⟨i + 1, q', j, by simpa using h1, h2, ?_⟩
      rw [List.take_succ_cons, sz_cons]
      omega
section Page
variable {G : zH} {c : Nat → Nat} {a : TA} {ro : TR} {st : TS} {hi : TH} {ke : TK} {pg qg : TP} {sc : Nat → Int32}
theorem lay38_20 {P : PC} {St : Nat → Nat} {i r : Nat} {q : Nat × Nat} {G0 : zH} {Q : zH → Prop} (hc : C0 c) (hz : sz P ≤ 3000) (hsg : ∀ p, p < sz P → st.2.2 (srcAt P p) = nn (St (srcAt P p)) ∧ St (srcAt P p) ≤ 127 ∧ srcAt P p < 7600) (hq : P[i]? = some q) (hq7 : q.1 + q.2 ≤ 7600) (k7 : zH → Nat → Nat → Nat → Int32 → Option zH) (hk7 : ∀ G1 pg1, FX G1 a ro st hi ke pg1 qg sc → PgTo pg1 P St (sz (P.take i) + q.2) → Up 0 G0 c 0 G1 c 0 → ok (k7 G1 20 r 4 (nn (i + 1))) Q) : ∀ fu j G pg, j ≤ q.2 → q.2 - j < fu → FX G a ro st hi ke pg qg sc → PgTo pg P St (sz (P.take i) + j) → Up 0 G0 c 0 G c 0 → ok (fX3_lay_b38 k7 fu G 20 r 4 (nn i) (nn (q.1 + q.2)) (nn (q.1 + j))) Q := by
  have hil := (List.getElem?_eq_some_iff.mp hq).1
  have hbase : sz (P.take i) + q.2 ≤ sz P := by
    have h1 := sz_take_drop P i
    rw [take_drop_cons hq, sz_cons] at h1
    omega
  intro fu
  induction fu with
  | zero => intro j G _ _ h; omega
  | succ fu ih =>
    intro j G pg hj hfu h hp u
    unfold fX3_lay_b38
    by_cases e : q.1 + q.2 ≤ q.1 + j
    · refine ift (by rw [nn_le (by omega) (by omega)]; exact e) ?_
      have : j = q.2 := by omega
      subst this
      unfold fX3_lay_b97
      rw [q1, nn_add]
      refine zl ?_
      exact hk7 G pg h hp u
    · refine ifn (by rw [nn_le (by omega) (by omega)]; exact e) ?_
      have hpn := hp.1
      refine sa1 (fi_at (v := nn pg.1) h.g20 rfl) ?_
      refine ifn (by rw [q3000, nn_le (by omega) (by omega)]; omega) ?_
      refine sa1 (frf_at (v := 21) h.g20 rfl) ?_
      refine sa1 (fi_at (v := nn pg.1) h.g20 rfl) ?_
      refine sa1 h.io4 ?_
      have hsp : srcAt P (sz (P.take i) + j) = q.1 + j := srcAt_in hq (by omega)
      have hpc : pcAt P (sz (P.take i) + j) = i := pcAt_in hq (by omega)
      have hs := hsg (sz (P.take i) + j) (by omega)
      rw [hsp] at hs
      refine sa1 (signAt4_sp h hs.2.2) ?_
      rw [hs.1, byte_nn _ (by omega)]
      refine sa1 (aW_at h.g21 (by omega) (by omega)) ?_
      have h1 := h.u21 (upd pg.2.1 pg.1 (nn (St (q.1 + j))))
      have u1 : Up 0 G c 0 (G.set 21 (.inl (2, (3000, .inl (upd pg.2.1 pg.1 (nn (St (q.1 + j)))))))) c 0 := Up.set h.g21 rfl (hc 21 (by decide))
      refine sa1 (frf_at (v := 22) h1.g20 rfl) ?_
      refine sa1 (fi_at (v := nn pg.1) h1.g20 rfl) ?_
      refine sa1 (aW_at h1.g22 (by omega) (by omega)) ?_
      have h2 := h1.u22 (upd pg.2.2 pg.1 (nn i))
      have u2 : Up 0 (G.set 21 (.inl (2, (3000, .inl (upd pg.2.1 pg.1 (nn (St (q.1 + j)))))))) c 0 ((G.set 21 (.inl (2, (3000, .inl (upd pg.2.1 pg.1 (nn (St (q.1 + j)))))))).set 22 (.inl (0, (3000, .inl (upd pg.2.2 pg.1 (nn i)))))) c 0 := Up.set h1.g22 rfl (hc 22 (by decide))
      refine sa1 (fi_at (v := nn pg.1) h2.g20 rfl) ?_
      rw [q1, nn_add]
      refine sa1 (fset_at h2.g20 (by simp)) ?_
      have h3 := h2.u20 (pg.1 + 1)
      rw [nn_add]
      refine zl ?_
      refine ih (j + 1) _ _ (by omega) (by omega) h3 ?_ (((u.trans u1).trans u2).trans (Up.set h2.g20 rfl (hc 20 (by decide))))
      refine ⟨by show pg.1 + 1 = _; omega, fun p hpl => ?_⟩
      show upd pg.2.1 pg.1 _ p = _ ∧ upd pg.2.2 pg.1 _ p = _
      by_cases e2 : p = pg.1
      · rw [e2, upd_same, upd_same, hpn, hsp, hpc]
        exact ⟨rfl, rfl⟩
      · rw [upd_ne _ _ e2, upd_ne _ _ e2]
        exact hp.2 p (by omega)
theorem lay7_20 {P : PC} {St : Nat → Nat} {id r b sgn : Nat} {mk : Nat → Int} {stk : Nat → Nat} (hc : C0 c) (hw : wfP P) (hz : sz P ≤ 3000) (hpi : okP 1600 6000 P) (hsg : ∀ p, p < sz P → st.2.2 (srcAt P p) = nn (St (srcAt P p)) ∧ St (srcAt P p) ≤ 127 ∧ srcAt P p < 7600) (hid : id ≠ 0) : ∀ fu i G pg, i ≤ P.length → P.length - i < fu → FX G a ro st hi ke pg qg sc → PgTo pg P St (sz (P.take i)) → LfS G c id r b P sgn mk stk → ok (fX3_lay_b7 fu G 20 r 4 (nn i)) fun G' => ∃ pg1, FX G' a ro st hi ke pg1 qg sc ∧ PgTo pg1 P St (sz P) ∧ Up 0 G c 0 G' c 0 := by
  have hlen := len_le_sz hw
  intro fu
  induction fu with
  | zero => intro i G _ _ h; omega
  | succ fu ih =>
    intro i G pg hi' hfu h hp hl
    unfold fX3_lay_b7
    refine sa1 hl.n2 ?_
    by_cases e : P.length ≤ i
    · refine ift (by rw [nn_le (by omega) (by omega)]; exact e) ?_
      have : i = P.length := by omega
      subst this
      rw [List.take_length] at hp
      exact ok_some ⟨pg, h, hp, Up.refl _ _ _ _⟩
    · refine ifn (by rw [nn_le (by omega) (by omega)]; exact e) ?_
      obtain ⟨q, hq⟩ : ∃ q, P[i]? = some q := ⟨P[i], List.getElem?_eq_getElem (by omega)⟩
      have hok := hpi q (List.mem_of_getElem? hq)
      unfold okQ at hok
      have hl0 := hl
      obtain ⟨hs, hl', hm, ht, cap, fs, fl, fm, ft, a1, a2, a3, a4, a5, a6, a7⟩ := hl0
      refine sa1 a1.f0 ?_
      refine sa1 (a1.rS (k := i) (by omega) a6) ?_
      refine sa1 a1.f1 ?_
      refine sa1 (a1.rL (k := i) (by omega) a6) ?_
      rw [(a2 i q hq).1, (a2 i q hq).2, nn_add]
      refine zl ?_
      refine lay38_20 (q := q) (St := St) (G0 := G) hc hz hsg hq (by omega) _ ?_ FU 0 G pg (by omega) (by rw [FU_eq]; omega) h hp (Up.refl _ _ _ _)
      intro G1 pg1 h1 hp1 u1
      have hts : sz (P.take (i + 1)) = sz (P.take i) + q.2 := by
        rw [List.take_succ, hq]
        show sz (P.take i ++ [q]) = _
        rw [sz_app, sz_cons, sz_nil]
        omega
      rw [← hts] at hp1
      refine ok_imp (ih (i + 1) G1 pg1 (by omega) (by omega) h1 hp1 (hl.kept u1.1 hid)) ?_
      rintro G2 ⟨pg2, x1, x2, x3⟩
      exact ⟨pg2, x1, x2, u1.trans x3⟩
theorem lay_20 {P : PC} {St : Nat → Nat} {id r b sgn : Nat} {mk : Nat → Int} {stk : Nat → Nat} (h : FX G a ro st hi ke pg qg sc) (hc : C0 c) (hw : wfP P) (hz : sz P ≤ 3000) (hpi : okP 1600 6000 P) (hsg : ∀ p, p < sz P → st.2.2 (srcAt P p) = nn (St (srcAt P p)) ∧ St (srcAt P p) ≤ 127 ∧ srcAt P p < 7600) (hid : id ≠ 0) (hl : LfS G c id r b P sgn mk stk) : ok (fX3_lay G 20 r 4) fun G' => ∃ pg1, FX G' a ro st hi ke pg1 qg sc ∧ PgTo pg1 P St (sz P) ∧ Up 0 G c 0 G' c 0 := by
  have hlen := len_le_sz hw
  unfold fX3_lay
  rw [q0]
  refine sa1 (fset_at h.g20 (by simp)) ?_
  have h1 := h.u20 0
  have u1 : Up 0 G c 0 (G.set 20 (.inr (3, [.ref 21, .ref 22, .int (nn 0)]))) c 0 := Up.set h.g20 rfl (hc 20 (by decide))
  refine ok_imp (lay7_20 (St := St) hc hw hz hpi hsg hid FU 0 _ (0, pg.2) (by omega) (by rw [FU_eq]; omega) h1 ⟨by simp [sz], fun p hp => by simp [sz] at hp⟩ (hl.kept u1.1 hid)) ?_
  rintro G2 ⟨pg2, x1, x2, x3⟩
  exact ⟨pg2, x1, x2, u1.trans x3⟩
theorem lay38_23 {P : PC} {St : Nat → Nat} {i r : Nat} {q : Nat × Nat} {G0 : zH} {Q : zH → Prop} (hc : C0 c) (hz : sz P ≤ 3000) (hsg : ∀ p, p < sz P → st.2.2 (srcAt P p) = nn (St (srcAt P p)) ∧ St (srcAt P p) ≤ 127 ∧ srcAt P p < 7600) (hq : P[i]? = some q) (hq7 : q.1 + q.2 ≤ 7600) (k7 : zH → Nat → Nat → Nat → Int32 → Option zH) (hk7 : ∀ G1 qg1, FX G1 a ro st hi ke pg qg1 sc → PgTo qg1 P St (sz (P.take i) + q.2) → Up 0 G0 c 0 G1 c 0 → ok (k7 G1 23 r 4 (nn (i + 1))) Q) : ∀ fu j G qg, j ≤ q.2 → q.2 - j < fu → FX G a ro st hi ke pg qg sc → PgTo qg P St (sz (P.take i) + j) → Up 0 G0 c 0 G c 0 → ok (fX3_lay_b38 k7 fu G 23 r 4 (nn i) (nn (q.1 + q.2)) (nn (q.1 + j))) Q := by
  have hil := (List.getElem?_eq_some_iff.mp hq).1
  have hbase : sz (P.take i) + q.2 ≤ sz P := by
    have h1 := sz_take_drop P i
    rw [take_drop_cons hq, sz_cons] at h1
    omega
  intro fu
  induction fu with
  | zero => intro j G _ _ h; omega
  | succ fu ih =>
    intro j G qg hj hfu h hp u
    unfold fX3_lay_b38
    by_cases e : q.1 + q.2 ≤ q.1 + j
    · refine ift (by rw [nn_le (by omega) (by omega)]; exact e) ?_
      have : j = q.2 := by omega
      subst this
      unfold fX3_lay_b97
      rw [q1, nn_add]
      refine zl ?_
      exact hk7 G qg h hp u
    · refine ifn (by rw [nn_le (by omega) (by omega)]; exact e) ?_
      have hpn := hp.1
      refine sa1 (fi_at (v := nn qg.1) h.g23 rfl) ?_
      refine ifn (by rw [q3000, nn_le (by omega) (by omega)]; omega) ?_
      refine sa1 (frf_at (v := 24) h.g23 rfl) ?_
      refine sa1 (fi_at (v := nn qg.1) h.g23 rfl) ?_
      refine sa1 h.io4 ?_
      have hsp : srcAt P (sz (P.take i) + j) = q.1 + j := srcAt_in hq (by omega)
      have hpc : pcAt P (sz (P.take i) + j) = i := pcAt_in hq (by omega)
      have hs := hsg (sz (P.take i) + j) (by omega)
      rw [hsp] at hs
      refine sa1 (signAt4_sp h hs.2.2) ?_
      rw [hs.1, byte_nn _ (by omega)]
      refine sa1 (aW_at h.g24 (by omega) (by omega)) ?_
      have h1 := h.u24 (upd qg.2.1 qg.1 (nn (St (q.1 + j))))
      have u1 : Up 0 G c 0 (G.set 24 (.inl (2, (3000, .inl (upd qg.2.1 qg.1 (nn (St (q.1 + j)))))))) c 0 := Up.set h.g24 rfl (hc 24 (by decide))
      refine sa1 (frf_at (v := 25) h1.g23 rfl) ?_
      refine sa1 (fi_at (v := nn qg.1) h1.g23 rfl) ?_
      refine sa1 (aW_at h1.g25 (by omega) (by omega)) ?_
      have h2 := h1.u25 (upd qg.2.2 qg.1 (nn i))
      have u2 : Up 0 (G.set 24 (.inl (2, (3000, .inl (upd qg.2.1 qg.1 (nn (St (q.1 + j)))))))) c 0 ((G.set 24 (.inl (2, (3000, .inl (upd qg.2.1 qg.1 (nn (St (q.1 + j)))))))).set 25 (.inl (0, (3000, .inl (upd qg.2.2 qg.1 (nn i)))))) c 0 := Up.set h1.g25 rfl (hc 25 (by decide))
      refine sa1 (fi_at (v := nn qg.1) h2.g23 rfl) ?_
      rw [q1, nn_add]
      refine sa1 (fset_at h2.g23 (by simp)) ?_
      have h3 := h2.u23 (qg.1 + 1)
      rw [nn_add]
      refine zl ?_
      refine ih (j + 1) _ _ (by omega) (by omega) h3 ?_ (((u.trans u1).trans u2).trans (Up.set h2.g23 rfl (hc 23 (by decide))))
      refine ⟨by show qg.1 + 1 = _; omega, fun p hpl => ?_⟩
      show upd qg.2.1 qg.1 _ p = _ ∧ upd qg.2.2 qg.1 _ p = _
      by_cases e2 : p = qg.1
      · rw [e2, upd_same, upd_same, hpn, hsp, hpc]
        exact ⟨rfl, rfl⟩
      · rw [upd_ne _ _ e2, upd_ne _ _ e2]
        exact hp.2 p (by omega)
theorem lay7_23 {P : PC} {St : Nat → Nat} {id r b sgn : Nat} {mk : Nat → Int} {stk : Nat → Nat} (hc : C0 c) (hw : wfP P) (hz : sz P ≤ 3000) (hpi : okP 1600 6000 P) (hsg : ∀ p, p < sz P → st.2.2 (srcAt P p) = nn (St (srcAt P p)) ∧ St (srcAt P p) ≤ 127 ∧ srcAt P p < 7600) (hid : id ≠ 0) : ∀ fu i G qg, i ≤ P.length → P.length - i < fu → FX G a ro st hi ke pg qg sc → PgTo qg P St (sz (P.take i)) → LfS G c id r b P sgn mk stk → ok (fX3_lay_b7 fu G 23 r 4 (nn i)) fun G' => ∃ qg1, FX G' a ro st hi ke pg qg1 sc ∧ PgTo qg1 P St (sz P) ∧ Up 0 G c 0 G' c 0 := by
  have hlen := len_le_sz hw
  intro fu
  induction fu with
  | zero => intro i G _ _ h; omega
  | succ fu ih =>
    intro i G qg hi' hfu h hp hl
    unfold fX3_lay_b7
    refine sa1 hl.n2 ?_
    by_cases e : P.length ≤ i
    · refine ift (by rw [nn_le (by omega) (by omega)]; exact e) ?_
      have : i = P.length := by omega
      subst this
      rw [List.take_length] at hp
      exact ok_some ⟨qg, h, hp, Up.refl _ _ _ _⟩
    · refine ifn (by rw [nn_le (by omega) (by omega)]; exact e) ?_
      obtain ⟨q, hq⟩ : ∃ q, P[i]? = some q := ⟨P[i], List.getElem?_eq_getElem (by omega)⟩
      have hok := hpi q (List.mem_of_getElem? hq)
      unfold okQ at hok
      have hl0 := hl
      obtain ⟨hs, hl', hm, ht, cap, fs, fl, fm, ft, a1, a2, a3, a4, a5, a6, a7⟩ := hl0
      refine sa1 a1.f0 ?_
      refine sa1 (a1.rS (k := i) (by omega) a6) ?_
      refine sa1 a1.f1 ?_
      refine sa1 (a1.rL (k := i) (by omega) a6) ?_
      rw [(a2 i q hq).1, (a2 i q hq).2, nn_add]
      refine zl ?_
      refine lay38_23 (q := q) (St := St) (G0 := G) hc hz hsg hq (by omega) _ ?_ FU 0 G qg (by omega) (by rw [FU_eq]; omega) h hp (Up.refl _ _ _ _)
      intro G1 qg1 h1 hp1 u1
      have hts : sz (P.take (i + 1)) = sz (P.take i) + q.2 := by
        rw [List.take_succ, hq]
        show sz (P.take i ++ [q]) = _
        rw [sz_app, sz_cons, sz_nil]
        omega
      rw [← hts] at hp1
      refine ok_imp (ih (i + 1) G1 qg1 (by omega) (by omega) h1 hp1 (hl.kept u1.1 hid)) ?_
      rintro G2 ⟨qg2, x1, x2, x3⟩
      exact ⟨qg2, x1, x2, u1.trans x3⟩
theorem lay_23 {P : PC} {St : Nat → Nat} {id r b sgn : Nat} {mk : Nat → Int} {stk : Nat → Nat} (h : FX G a ro st hi ke pg qg sc) (hc : C0 c) (hw : wfP P) (hz : sz P ≤ 3000) (hpi : okP 1600 6000 P) (hsg : ∀ p, p < sz P → st.2.2 (srcAt P p) = nn (St (srcAt P p)) ∧ St (srcAt P p) ≤ 127 ∧ srcAt P p < 7600) (hid : id ≠ 0) (hl : LfS G c id r b P sgn mk stk) : ok (fX3_lay G 23 r 4) fun G' => ∃ qg1, FX G' a ro st hi ke pg qg1 sc ∧ PgTo qg1 P St (sz P) ∧ Up 0 G c 0 G' c 0 := by
  have hlen := len_le_sz hw
  unfold fX3_lay
  rw [q0]
  refine sa1 (fset_at h.g23 (by simp)) ?_
  have h1 := h.u23 0
  have u1 : Up 0 G c 0 (G.set 23 (.inr (3, [.ref 24, .ref 25, .int (nn 0)]))) c 0 := Up.set h.g23 rfl (hc 23 (by decide))
  refine ok_imp (lay7_23 (St := St) hc hw hz hpi hsg hid FU 0 _ (0, qg.2) (by omega) (by rw [FU_eq]; omega) h1 ⟨by simp [sz], fun p hp => by simp [sz] at hp⟩ (hl.kept u1.1 hid)) ?_
  rintro G2 ⟨qg2, x1, x2, x3⟩
  exact ⟨qg2, x1, x2, u1.trans x3⟩
end Page
