/-! the row, the stores -/
abbrev vs (on an k : Nat) : Prop := k < on ∨ (1600 ≤ k ∧ k < 1600 + an)
def SG (sg : Nat → Int32) (St : Nat → Nat) (on an : Nat) : Prop := ∀ k, vs on an k → sg k = nn (St k) ∧ 1 ≤ St k ∧ St k ≤ 127
theorem byte_nn : ∀ v, v < 128 → vp_nar .byte (nn v).toInt8.toInt32 = nn v := by decide +kernel
def cntB (t : Nat → Nat) (lo : Nat) : Nat → Nat
  | 0 => 0
  | k + 1 => cntB t lo k + if t (lo + k) = 10 then 1 else 0
theorem cntB_le (t : Nat → Nat) (lo k : Nat) : cntB t lo k ≤ k := by
  induction k with
  | zero => simp [cntB]
  | succ k ih =>
    simp only [cntB]
    split <;> omega
section Told
variable {G : zH} {c : Nat → Nat} {a : (Nat → Int32) × Nat × Nat × Int32} {ro : Nat × (Nat → Int64)} {st : Nat × Nat × (Nat → Int32)} {hi : Nat × Nat × Nat × (Nat → Option Nat)} {ke : (Nat → Option Nat) × (Nat → Int32)} {pg qg : Nat × (Nat → Int32) × (Nat → Int32)} {sc : Nat → Int32}
def C0 (c : Nat → Nat) : Prop := ∀ h, h ≤ 9 ∨ (20 ≤ h ∧ h ≤ 26) → c h / 8 = 0
theorem FX.io2 (h : FX G a ro st hi ke pg qg sc) : isO G 2 5 = some () := isO_at h.g2
theorem FX.io4 (h : FX G a ro st hi ke pg qg sc) : isO G 4 4 = some () := isO_at h.g4
theorem FX.io0 (h : FX G a ro st hi ke pg qg sc) : isO G 0 6 = some () := isO_at h.g0
theorem FX.io6 (h : FX G a ro st hi ke pg qg sc) : isO G 6 1 = some () := isO_at h.g6
theorem FX.io20 (h : FX G a ro st hi ke pg qg sc) : isO G 20 3 = some () := isO_at h.g20
theorem FX.io23 (h : FX G a ro st hi ke pg qg sc) : isO G 23 3 = some () := isO_at h.g23
theorem FX.r0_0 (h : FX G a ro st hi ke pg qg sc) : frf G 0 6 0 = some 1 := frf_at h.g0 rfl
theorem FX.i0_1 (h : FX G a ro st hi ke pg qg sc) : fi G 0 6 1 = some (nn a.2.1) := fi_at h.g0 rfl
theorem FX.r0_2 (h : FX G a ro st hi ke pg qg sc) : frf G 0 6 2 = some 2 := frf_at h.g0 rfl
theorem FX.r0_3 (h : FX G a ro st hi ke pg qg sc) : frf G 0 6 3 = some 4 := frf_at h.g0 rfl
theorem FX.r0_4 (h : FX G a ro st hi ke pg qg sc) : frf G 0 6 4 = some 6 := frf_at h.g0 rfl
theorem FX.r0_5 (h : FX G a ro st hi ke pg qg sc) : frf G 0 6 5 = some 8 := frf_at h.g0 rfl
theorem FX.r0_6 (h : FX G a ro st hi ke pg qg sc) : frf G 0 6 6 = some 9 := frf_at h.g0 rfl
theorem FX.r0_7 (h : FX G a ro st hi ke pg qg sc) : frf G 0 6 7 = some 10 := frf_at h.g0 rfl
theorem FX.r0_8 (h : FX G a ro st hi ke pg qg sc) : frf G 0 6 8 = some 15 := frf_at h.g0 rfl
theorem FX.r0_9 (h : FX G a ro st hi ke pg qg sc) : frf G 0 6 9 = some 20 := frf_at h.g0 rfl
theorem FX.i0_10 (h : FX G a ro st hi ke pg qg sc) : fi G 0 6 10 = some (nn a.2.2.1) := fi_at h.g0 rfl
theorem FX.r0_11 (h : FX G a ro st hi ke pg qg sc) : frf G 0 6 11 = some 23 := frf_at h.g0 rfl
theorem FX.r0_12 (h : FX G a ro st hi ke pg qg sc) : frf G 0 6 12 = some 26 := frf_at h.g0 rfl
theorem FX.i0_13 (h : FX G a ro st hi ke pg qg sc) : fi G 0 6 13 = some a.2.2.2 := fi_at h.g0 rfl
theorem FX.s0_1 (h : FX G a ro st hi ke pg qg sc) (hc : C0 c) (b n : Nat) : ∃ G', fset G 0 6 1 (.int (nn n)) = some G' ∧ FX G' (a.1, n, a.2.2) ro st hi ke pg qg sc ∧ Up 0 G c b G' c b := ⟨_, fset_at h.g0 (by simp), h.u0 n a.2.2.1 a.2.2.2, Up.set h.g0 rfl (hc 0 (by decide))⟩
theorem FX.s0_10 (h : FX G a ro st hi ke pg qg sc) (hc : C0 c) (b n : Nat) : ∃ G', fset G 0 6 10 (.int (nn n)) = some G' ∧ FX G' (a.1, a.2.1, n, a.2.2.2) ro st hi ke pg qg sc ∧ Up 0 G c b G' c b := ⟨_, fset_at h.g0 (by simp), h.u0 a.2.1 n a.2.2.2, Up.set h.g0 rfl (hc 0 (by decide))⟩
theorem FX.s0_13 (h : FX G a ro st hi ke pg qg sc) (hc : C0 c) (b : Nat) (x : Int32) : ∃ G', fset G 0 6 13 (.int x) = some G' ∧ FX G' (a.1, a.2.1, a.2.2.1, x) ro st hi ke pg qg sc ∧ Up 0 G c b G' c b := ⟨_, fset_at h.g0 (by simp), h.u0 a.2.1 a.2.2.1 x, Up.set h.g0 rfl (hc 0 (by decide))⟩
theorem add5_sp (h : FX G a ro st hi ke pg qg sc) (hc : C0 c) (b : Nat) (v : Int64) (hn : ro.1 < 16) : ok (fX5_add G 2 v) fun G' => FX G' a (ro.1 + 1, vp_updL ro.2 ro.1 v) st hi ke pg qg sc ∧ Up 0 G c b G' c b := by
  unfold fX5_add
  refine sa1 (fi_at h.g2 rfl) ?_
  refine sa1 (frf_at h.g2 rfl) ?_
  refine sa1 (jL_at h.g3) ?_
  refine ifn (by rw [nn_le (by omega) (by omega)]; omega) ?_
  refine sa1 (frf_at h.g2 rfl) ?_
  refine sa1 (fi_at h.g2 rfl) ?_
  refine sa1 (jW_at h.g3 hn (by omega)) ?_
  have h1 := h.u3 (vp_updL ro.2 ro.1 v)
  refine sa1 (fi_at h1.g2 rfl) ?_
  rw [q1, nn_add]
  refine sa1 (fset_at h1.g2 (by simp)) ?_
  exact ok_some ⟨h1.u2 (ro.1 + 1), Up.trans (G1 := G.set 3 (.inl (1, (16, .inr (.inl (vp_updL ro.2 ro.1 v)))))) (Up.set h.g3 rfl (hc 3 (by decide))) (Up.set h1.g2 rfl (hc 2 (by decide)))⟩
theorem clear5_sp (h : FX G a ro st hi ke pg qg sc) (hc : C0 c) (b : Nat) : ok (fX5_clear G 2) fun G' => FX G' a (0, ro.2) st hi ke pg qg sc ∧ Up 0 G c b G' c b := by
  unfold fX5_clear
  rw [q0]
  refine sa1 (fset_at h.g2 (by simp)) ?_
  exact ok_some ⟨h.u2 0, Up.set h.g2 rfl (hc 2 (by decide))⟩
theorem tell1_sp (h : FX G a ro st hi ke pg qg sc) (hc : C0 c) (b : Nat) (v : Int64) : ok (fX5_tell G 2 v) fun G' => FX G' a (1, vp_updL ro.2 0 v) st hi ke pg qg sc ∧ Up 0 G c b G' c b := by
  unfold fX5_tell
  refine sa1 h.io2 ?_
  refine ca1 (clear5_sp h hc b) ?_
  rintro G1 ⟨h1, u1⟩
  refine sa1 h1.io2 ?_
  refine ca1 (add5_sp h1 hc b v (by simp)) ?_
  rintro G2 ⟨h2, u2⟩
  exact ok_some ⟨h2, u1.trans u2⟩
theorem tell2_sp (h : FX G a ro st hi ke pg qg sc) (hc : C0 c) (b : Nat) (v w : Int64) : ok (fX5_tell_ G 2 v w) fun G' => FX G' a (2, vp_updL (vp_updL ro.2 0 v) 1 w) st hi ke pg qg sc ∧ Up 0 G c b G' c b := by
  unfold fX5_tell_
  refine sa1 h.io2 ?_
  refine ca1 (tell1_sp h hc b v) ?_
  rintro G1 ⟨h1, u1⟩
  refine sa1 h1.io2 ?_
  refine ca1 (add5_sp h1 hc b w (by simp)) ?_
  rintro G2 ⟨h2, u2⟩
  exact ok_some ⟨h2, u1.trans u2⟩
theorem tell3_sp (h : FX G a ro st hi ke pg qg sc) (hc : C0 c) (b : Nat) (v w x : Int64) : ok (fX5_tell__ G 2 v w x) fun G' => FX G' a (3, vp_updL (vp_updL (vp_updL ro.2 0 v) 1 w) 2 x) st hi ke pg qg sc ∧ Up 0 G c b G' c b := by
  unfold fX5_tell__
  refine sa1 h.io2 ?_
  refine ca1 (tell2_sp h hc b v w) ?_
  rintro G1 ⟨h1, u1⟩
  refine sa1 h1.io2 ?_
  refine ca1 (add5_sp h1 hc b x (by simp)) ?_
  rintro G2 ⟨h2, u2⟩
  exact ok_some ⟨h2, u1.trans u2⟩
theorem addedEnd_sp (h : FX G a ro st hi ke pg qg sc) : fX4_addedEnd G 4 = some (nn (1600 + st.2.1)) := by
  unfold fX4_addedEnd
  rw [fi_at h.g4 rfl, ob1_some, q1600, nn_add]
theorem sizeOf_sp (h : FX G a ro st hi ke pg qg sc) {s : Nat} (hs : s ≤ 1) : fX4_sizeOf G 4 (nn s) = some (nn (if s = 0 then st.1 else st.2.1)) := by
  unfold fX4_sizeOf
  rw [q0, if_eq (by omega) (by omega)]
  by_cases e : s = 0
  · rw [if_pos e, if_pos e, fi_at (k := 1) h.g4 rfl]
    rfl
  · rw [if_neg e, if_neg e, fi_at (k := 2) h.g4 rfl]
    rfl
theorem signAt4_sp (h : FX G a ro st hi ke pg qg sc) {k : Nat} (hk : k < 7600) : fX4_signAt G 4 (nn k) = some (st.2.2 k) := by
  unfold fX4_signAt
  rw [if_neg (by rw [nn_neg (by omega)]; exact id), frf_at (v := 5) h.g4 rfl, ob1_some, aL_at h.g5, ob1_some, if_neg (by rw [nn_le (by omega) (by omega)]; omega), ob1_some, aR_at h.g5 hk (by omega), ob1_some]
theorem add4_sp (h : FX G a ro st hi ke pg qg sc) (hc : C0 c) (b : Nat) {v : Nat} (hv : v ≤ 127) (hn : st.2.1 < 6000) : ok (fX4_add G 4 (nn v)) fun G' => FX G' a ro (st.1, st.2.1 + 1, upd st.2.2 (1600 + st.2.1) (nn v)) hi ke pg qg sc ∧ Up 0 G c b G' c b := by
  unfold fX4_add
  refine sa1 (fi_at h.g4 rfl) ?_
  refine ifn (by rw [q6000, nn_le (by omega) (by omega)]; omega) ?_
  refine sa1 (frf_at h.g4 rfl) ?_
  refine sa1 (fi_at h.g4 rfl) ?_
  rw [q1600, nn_add, byte_nn v (by omega)]
  refine sa1 (aW_at h.g5 (by omega) (by omega)) ?_
  have h1 := h.u5 (upd st.2.2 (1600 + st.2.1) (nn v))
  refine sa1 (fi_at h1.g4 rfl) ?_
  rw [q1, nn_add]
  refine sa1 (fset_at h1.g4 (by simp)) ?_
  exact ok_some ⟨h1.u4 st.1 (st.2.1 + 1), Up.trans (G1 := G.set 5 (.inl (2, (7600, .inl (upd st.2.2 (1600 + st.2.1) (nn v)))))) (Up.set h.g5 rfl (hc 5 (by decide))) (Up.set h1.g4 rfl (hc 4 (by decide)))⟩
/-- n signs of t behind the added -/
def adds (sg : Nat → Int32) (an : Nat) (t : Nat → Int32) (n : Nat) : Nat → Int32 := fun k => if 1600 + an ≤ k ∧ k < 1600 + an + n then t (k - (1600 + an)) else sg k
theorem adds_zero (sg : Nat → Int32) (an : Nat) (t : Nat → Int32) : adds sg an t 0 = sg := by
  funext k
  unfold adds
  rw [if_neg (by omega)]
theorem adds_succ (sg : Nat → Int32) (an : Nat) (t : Nat → Int32) (n : Nat) : upd (adds sg an t n) (1600 + (an + n)) (t n) = adds sg an t (n + 1) := by
  funext k
  unfold adds upd
  dsimp only
  by_cases e : k = 1600 + (an + n)
  · rw [if_pos e, if_pos (by omega), show k - (1600 + an) = n by omega]
  · rw [if_neg e]
    by_cases e2 : 1600 + an ≤ k ∧ k < 1600 + an + n
    · rw [if_pos e2, if_pos (by omega)]
    · rw [if_neg e2, if_neg (by omega)]
theorem addText_b2_sp {T : Nat → Nat} {m sg0 : Nat} {f0 : Nat → Int32} {an0 : Nat} (hc : C0 c) (b : Nat) (hm : m ≤ 80) (hT : ∀ k, k < m → a.1 k = nn (T k) ∧ T k ≤ 127) (ha : an0 + m ≤ 6000) : ∀ fu k G, k ≤ m → m - k < fu → FX G a ro (sg0, an0 + k, adds f0 an0 a.1 k) hi ke pg qg sc → ok (fX4_addText_b2 fu G 4 1 (nn m) (nn k)) fun G' => FX G' a ro (sg0, an0 + m, adds f0 an0 a.1 m) hi ke pg qg sc ∧ Up 0 G c b G' c b := by
  intro fu
  induction fu with
  | zero => intro k G _ h; omega
  | succ fu ih =>
    intro k G hk hfu h
    unfold fX4_addText_b2
    by_cases e : m ≤ k
    · refine ift (by rw [nn_le (by omega) (by omega)]; exact e) ?_
      have : k = m := by omega
      subst this
      exact ok_some ⟨h, Up.refl _ _ _ _⟩
    · refine ifn (by rw [nn_le (by omega) (by omega)]; exact e) ?_
      refine sa1 (aL_at h.g1) ?_
      refine ifn (by rw [nn_le (by omega) (by omega)]; omega) ?_
      refine sa1 (aR_at h.g1 (by omega) (by omega)) ?_
      refine sa1 h.io4 ?_
      have hk1 := hT k (by omega)
      rw [hk1.1]
      refine ca1 (add4_sp h hc b hk1.2 (by show an0 + k < 6000; omega)) ?_
      rintro G1 ⟨h1, u1⟩
      rw [q1, nn_add]
      refine zl ?_
      rw [← hk1.1] at h1
      have h1' : FX G1 a ro (sg0, an0 + k + 1, adds f0 an0 a.1 (k + 1)) hi ke pg qg sc := by
        rw [← adds_succ]
        exact h1
      refine ok_imp (ih (k + 1) G1 (by omega) (by omega) h1') ?_
      rintro G2 ⟨h2, u2⟩
      exact ⟨h2, u1.trans u2⟩
theorem addText_sp {T : Nat → Nat} {m : Nat} (h : FX G a ro st hi ke pg qg sc) (hc : C0 c) (b : Nat) (hm : m ≤ 80) (hT : ∀ k, k < m → a.1 k = nn (T k) ∧ T k ≤ 127) (ha : st.2.1 + m ≤ 6000) : ok (fX4_addText G 4 1 (nn m)) fun G' => FX G' a ro (st.1, st.2.1 + m, adds st.2.2 st.2.1 a.1 m) hi ke pg qg sc ∧ Up 0 G c b G' c b := by
  unfold fX4_addText
  rw [q0]
  refine addText_b2_sp hc b hm hT ha FU 0 G (by omega) (by rw [FU_eq]; omega) ?_
  rw [adds_zero, Nat.add_zero]
  exact h
theorem addBlanks_b2_sp {m sg0 : Nat} {f0 : Nat → Int32} {an0 : Nat} (hc : C0 c) (b : Nat) (hm : m ≤ 80) (ha : an0 + m ≤ 6000) : ∀ fu k G, k ≤ m → m - k < fu → FX G a ro (sg0, an0 + k, adds f0 an0 (fun _ => nn 32) k) hi ke pg qg sc → ok (fX4_addBlanks_b2 fu G 4 (nn m) (nn k)) fun G' => FX G' a ro (sg0, an0 + m, adds f0 an0 (fun _ => nn 32) m) hi ke pg qg sc ∧ Up 0 G c b G' c b := by
  intro fu
  induction fu with
  | zero => intro k G _ h; omega
  | succ fu ih =>
    intro k G hk hfu h
    unfold fX4_addBlanks_b2
    by_cases e : m ≤ k
    · refine ift (by rw [nn_le (by omega) (by omega)]; exact e) ?_
      have : k = m := by omega
      subst this
      exact ok_some ⟨h, Up.refl _ _ _ _⟩
    · refine ifn (by rw [nn_le (by omega) (by omega)]; exact e) ?_
      refine sa1 h.io4 ?_
      rw [q32]
      refine ca1 (add4_sp h hc b (v := 32) (by omega) (by show an0 + k < 6000; omega)) ?_
      rintro G1 ⟨h1, u1⟩
      rw [q1, nn_add]
      refine zl ?_
      have h1' : FX G1 a ro (sg0, an0 + k + 1, adds f0 an0 (fun _ => nn 32) (k + 1)) hi ke pg qg sc := by
        rw [← adds_succ]
        exact h1
      refine ok_imp (ih (k + 1) G1 (by omega) (by omega) h1') ?_
      rintro G2 ⟨h2, u2⟩
      exact ⟨h2, u1.trans u2⟩
theorem addBlanks_sp {m : Nat} (h : FX G a ro st hi ke pg qg sc) (hc : C0 c) (b : Nat) (hm : m ≤ 80) (ha : st.2.1 + m ≤ 6000) : ok (fX4_addBlanks G 4 (nn m)) fun G' => FX G' a ro (st.1, st.2.1 + m, adds st.2.2 st.2.1 (fun _ => nn 32) m) hi ke pg qg sc ∧ Up 0 G c b G' c b := by
  unfold fX4_addBlanks
  rw [q0]
  refine addBlanks_b2_sp hc b hm ha FU 0 G (by omega) (by rw [FU_eq]; omega) ?_
  rw [adds_zero, Nat.add_zero]
  exact h
theorem breaksIn4_sp {St : Nat → Nat} {lo n : Nat} (h : FX G a ro st hi ke pg qg sc) (hl : lo + n ≤ 7600) (hs : ∀ k, k < n → st.2.2 (lo + k) = nn (St (lo + k)) ∧ St (lo + k) ≤ 127) : fX4_breaksIn G 4 (nn lo) (nn n) = some (nn (cntB St lo n)) := by
  unfold fX4_breaksIn
  rw [q0]
  have key : ∀ fu k, k ≤ n → n - k < fu → fX4_breaksIn_b5 G fu 4 (nn lo) (nn n) (nn (cntB St lo k)) (nn (lo + k)) = some (nn (cntB St lo n)) := by
    intro fu
    induction fu with
    | zero => intro k _ h; omega
    | succ fu ih =>
      intro k hk hfu
      unfold fX4_breaksIn_b5
      rw [nn_add, if_le (by omega) (by omega)]
      by_cases e : lo + n ≤ lo + k
      · rw [if_pos e, show k = n by omega]
      · have := hs k (by omega)
        rw [if_neg e, h.io4, ob1_some, signAt4_sp h (by omega), ob1_some, this.1, q10, if_eq (by omega) (by omega)]
        have hcs : cntB St lo (k + 1) = cntB St lo k + if St (lo + k) = 10 then 1 else 0 := rfl
        by_cases e2 : St (lo + k) = 10
        · rw [if_pos e2] at hcs ⊢
          rw [q1, nn_add]
          show fX4_breaksIn_b27 G (fX4_breaksIn_b5 G fu) 4 (nn lo) (nn n) (nn (cntB St lo k + 1)) (nn (lo + k)) = _
          unfold fX4_breaksIn_b27
          rw [q1, nn_add, ← hcs]
          exact ih (k + 1) (by omega) (by omega)
        · rw [if_neg e2] at hcs ⊢
          unfold fX4_breaksIn_b27
          rw [q1, nn_add, show cntB St lo k = cntB St lo (k + 1) by omega]
          exact ih (k + 1) (by omega) (by omega)
  exact key FU 0 (by omega) (by rw [FU_eq]; omega)
/-- the text n times -/
def rnw (f0 : Nat → Int32) (t : Nat → Int32) (m n : Nat) : Nat → Int32 := fun j => if j < n then t (j % m) else f0 j
theorem renew_b22_sp {T : Nat → Nat} {m n t : Nat} {f0 : Nat → Int32} (hc : C0 c) (b : Nat) (k13 : zH → Nat → Nat → Int32 → Int32 → Int32 → Option zH) (hm : m ≤ 80) (ht : t < n) (hn : n ≤ 20) (hT : ∀ k, k < m → a.1 k = nn (T k) ∧ T k ≤ 127) {Q : zH → Prop} {G0 : zH} (hk13 : ∀ G1, FX G1 a ro (t * m + m, 0, rnw f0 a.1 m (t * m + m)) hi ke pg qg sc → Up 0 G0 c b G1 c b → ok (k13 G1 4 1 (nn m) (nn n) (nn (t + 1))) Q) : ∀ fu k G, k ≤ m → m - k < fu → FX G a ro (t * m + k, 0, rnw f0 a.1 m (t * m + k)) hi ke pg qg sc → Up 0 G0 c b G c b → ok (fX4_renew_b22 k13 fu G 4 1 (nn m) (nn n) (nn t) (nn k)) Q := by
  have htm : t * m + m ≤ 1600 := by
    have h1 : (t + 1) * m ≤ 20 * 80 := Nat.mul_le_mul (by omega) hm
    rw [Nat.add_mul, Nat.one_mul] at h1
    omega
  intro fu
  induction fu with
  | zero => intro k G _ h; omega
  | succ fu ih =>
    intro k G hk hfu h u
    unfold fX4_renew_b22
    by_cases e : m ≤ k
    · refine ift (by rw [nn_le (by omega) (by omega)]; exact e) ?_
      have : k = m := by omega
      subst this
      unfold fX4_renew_b75
      rw [q1, nn_add]
      refine zl ?_
      exact hk13 G h u
    · refine ifn (by rw [nn_le (by omega) (by omega)]; exact e) ?_
      refine sa1 (aL_at h.g1) ?_
      refine ifn (by rw [nn_le (by omega) (by omega)]; omega) ?_
      refine sa1 (fi_at (v := nn (t * m + k)) h.g4 rfl) ?_
      refine ifn (by rw [q1600, nn_le (by omega) (by omega)]; omega) ?_
      refine sa1 (frf_at h.g4 rfl) ?_
      refine sa1 (fi_at (v := nn (t * m + k)) h.g4 rfl) ?_
      refine sa1 (aR_at h.g1 (by omega) (by omega)) ?_
      have hk1 := hT k (by omega)
      rw [hk1.1, byte_nn _ (by omega), ← hk1.1]
      refine sa1 (aW_at h.g5 (by omega) (by omega)) ?_
      have h1 := h.u5 (upd (rnw f0 a.1 m (t * m + k)) (t * m + k) (a.1 k))
      have u1 : Up 0 G c b (G.set 5 (.inl (2, (7600, .inl (upd (rnw f0 a.1 m (t * m + k)) (t * m + k) (a.1 k)))))) c b := Up.set h.g5 rfl (hc 5 (by decide))
      refine sa1 (fi_at (v := nn (t * m + k)) h1.g4 rfl) ?_
      rw [q1, nn_add]
      refine sa1 (fset_at h1.g4 (by simp)) ?_
      have h2 := h1.u4 (t * m + k + 1) 0
      have hf : upd (rnw f0 a.1 m (t * m + k)) (t * m + k) (a.1 k) = rnw f0 a.1 m (t * m + (k + 1)) := by
        funext j
        unfold upd rnw
        by_cases e1 : j = t * m + k
        · rw [if_pos e1, if_pos (by omega), e1, Nat.mul_add_mod_of_lt (by omega)]
        · rw [if_neg e1]
          by_cases e2 : j < t * m + k
          · rw [if_pos e2, if_pos (by omega)]
          · rw [if_neg e2, if_neg (by omega)]
      rw [nn_add]
      refine zl ?_
      refine ih (k + 1) _ (by omega) (by omega) ?_ ((u.trans u1).trans (Up.set h1.g4 rfl (hc 4 (by decide))))
      rw [← hf]
      exact h2
theorem renew_b13_sp {T : Nat → Nat} {m n : Nat} {f0 : Nat → Int32} (hc : C0 c) (b : Nat) (hm : m ≤ 80) (hn : n ≤ 20) (hT : ∀ k, k < m → a.1 k = nn (T k) ∧ T k ≤ 127) : ∀ fu t G, t ≤ n → n - t < fu → FX G a ro (t * m, 0, rnw f0 a.1 m (t * m)) hi ke pg qg sc → ok (fX4_renew_b13 fu G 4 1 (nn m) (nn n) (nn t)) fun G' => FX G' a ro (n * m, 0, rnw f0 a.1 m (n * m)) hi ke pg qg sc ∧ Up 0 G c b G' c b := by
  intro fu
  induction fu with
  | zero => intro k G _ h; omega
  | succ fu ih =>
    intro t G ht hfu h
    unfold fX4_renew_b13
    by_cases e : n ≤ t
    · refine ift (by rw [nn_le (by omega) (by omega)]; exact e) ?_
      have : t = n := by omega
      subst this
      exact ok_some ⟨h, Up.refl _ _ _ _⟩
    · refine ifn (by rw [nn_le (by omega) (by omega)]; exact e) ?_
      rw [q0]
      refine renew_b22_sp (f0 := f0) (G0 := G) hc b _ hm (by omega) hn hT ?_ FU 0 G (by omega) (by rw [FU_eq]; omega) h (Up.refl _ _ _ _)
      intro G1 h1 u1
      have h1' : FX G1 a ro ((t + 1) * m, 0, rnw f0 a.1 m ((t + 1) * m)) hi ke pg qg sc := by
        rw [Nat.add_mul, Nat.one_mul]
        exact h1
      refine ok_imp (ih (t + 1) G1 (by omega) (by omega) h1') ?_
      rintro G2 ⟨h2, u2⟩
      exact ⟨h2, u1.trans u2⟩
theorem renew_sp {T : Nat → Nat} {m n : Nat} (h : FX G a ro st hi ke pg qg sc) (hc : C0 c) (b : Nat) (hm : m ≤ 80) (hn : n ≤ 20) (hT : ∀ k, k < m → a.1 k = nn (T k) ∧ T k ≤ 127) : ok (fX4_renew G 4 1 (nn m) (nn n)) fun G' => FX G' a ro (n * m, 0, rnw st.2.2 a.1 m (n * m)) hi ke pg qg sc ∧ Up 0 G c b G' c b := by
  unfold fX4_renew
  rw [q0]
  refine sa1 (fset_at h.g4 (by simp)) ?_
  have h1 := h.u4 0 st.2.1
  refine sa1 (fset_at h1.g4 (by simp)) ?_
  have h2 := h1.u4 0 0
  have u1 : Up 0 G c b (G.set 4 (.inr (4, [.ref 5, .int (nn 0), .int (nn st.2.1)]))) c b := Up.set h.g4 rfl (hc 4 (by decide))
  have hf : rnw st.2.2 a.1 m (0 * m) = st.2.2 := by
    funext j
    unfold rnw
    rw [if_neg (by omega)]
  have h3 : ∀ G9, FX G9 a ro (0, 0, st.2.2) hi ke pg qg sc → FX G9 a ro (0 * m, 0, rnw st.2.2 a.1 m (0 * m)) hi ke pg qg sc := by
    intro G9 h9
    rw [hf, Nat.zero_mul]
    exact h9
  refine ok_imp (renew_b13_sp (f0 := st.2.2) hc b hm hn hT FU 0 _ (by omega) (by rw [FU_eq]; omega) (h3 _ h2)) ?_
  rintro G2 ⟨h4, u4⟩
  refine ⟨h4, Up.trans ?_ u4⟩
  exact u1.trans (Up.set h1.g4 rfl (hc 4 (by decide)))
end Told
