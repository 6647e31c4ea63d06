/-! an act that is not as it must be -/
section RN
variable {M : MS} {T : Nat → Nat} {m p i F : Nat}
theorem rA_no (h5 : M.1 5 = nn m) (hT : ∀ i, i < 80 → M.2.1 3 i = nn (T i) ∧ T i ≤ 255) (hm : m ≤ 80) (h30 : M.1 30 = nn p) (h29 : M.1 29 = nn i) (hi : i < 80) (hp : p < m) (hn : nA T m p F) : ∃ M1, fX7_readsAct M = some (nn 0, M1) ∧ FAc M M1 i ∧ M1.1 30 = nn F ∧ F ≤ 80 := by
  have hc := (hT p (by omega)).2
  rcases hn with ⟨n1, n2⟩ | ⟨n1, k, n2, n3, n4, n5, n6⟩
  · exact ⟨M, rA_0 hT h30 (by omega) n1, FAc.refl _ _, by rw [h30, n2], by omega⟩
  · have hll := lenA_le (T p) (by omega)
    have hkm : p + k ≤ m := by
      by_cases e1 : k = 1
      · omega
      · have := (n5 (k - 1) (by omega) (by omega)).1
        omega
    obtain ⟨M3, s1, s2, s3, s4, s5⟩ := b54_st (M := M) (c := T p) h30 h29 hi
    rw [rA_b54 hT h30 (by omega) n1, s5]
    have h53 : M3.1 5 = nn m := (s4.1 5 (by decide) (by decide)).trans h5
    have hT3 := s4.tx hT
    have e : T p = 100 ∨ T p = 105 ∨ T p = 108 ∨ T p = 109 := by
      rcases lenA_n n1 with (e | e | e) | e
      · rw [e] at n3
        exact absurd n3 (by have : lenA 104 = 1 := rfl; omega)
      · rw [e] at n3
        exact absurd n3 (by have : lenA 117 = 1 := rfl; omega)
      · rw [e] at n3
        exact absurd n3 (by have : lenA 114 = 1 := rfl; omega)
      · exact e
    rw [if_neg (by rcases e with e | e | e | e <;> (rw [e]; decide)), if_neg (by rcases e with e | e | e | e <;> (rw [e]; decide)), if_neg (by rcases e with e | e | e | e <;> (rw [e]; decide))]
    by_cases k4 : k ≤ 4
    · have d4 := act_dig (m := m) (T := T) (p := p) (d := k - 1) (k0 := 1) rfl (fun j hj => by omega) (fun j h1 h2 => n5 j h1 (by omega)) (Nat.le_refl _)
      obtain ⟨M8, a1, a2, a3⟩ := dig_no (d := 4) (e := k - 1) h53 hT3 hm s1 (by omega) (by omega) d4 (by omega) (by
        rw [show p + 1 + (k - 1) = p + k by omega]
        rcases n6 with n6 | n6
        · exact Or.inl n6
        · exact Or.inr ((ms_d (by omega)).2.mp n6))
      obtain ⟨M1, b1, b2, b3⟩ := r54_no (c := T p) hi a1
      exact ⟨M1, b1, s4.trans ((a2.fac i).trans b2), by rw [b3, a3, n4, show p + 1 + (k - 1) = p + k by omega], by omega⟩
    · have d4 := act_dig (m := m) (T := T) (p := p) (d := 4) (k0 := 1) rfl (fun j hj => by omega) (fun j h1 h2 => n5 j h1 (by omega)) (Nat.le_refl _)
      obtain ⟨M8, a1, a2, a3⟩ := dig_ok (d := 4) h53 hT3 hm s1 (by omega) d4
      have hnum := num_le (T := T) (p := p + 1) (d := 4) (fun j hj => (d4 j hj).2.2)
      have hnum' : num T (p + 1) 4 < 2147483648 := by
        have : (10 : Nat) ^ 4 = 10000 := by decide
        omega
      rw [r54_go hi hnum' a1]
      have f8 : FAc M (mA M8 26 (upd (M8.2.1 26) i (nn (num T (p + 1) 4)))) i := s4.trans ((a2.fac i).trans (FAc.arr M8 _ (by omega) (by omega)))
      have h510 : (mA M8 26 (upd (M8.2.1 26) i (nn (num T (p + 1) 4)))).1 5 = nn m := (f8.1 5 (by decide) (by decide)).trans h5
      have hT10 := f8.tx hT
      have h3010 : (mA M8 26 (upd (M8.2.1 26) i (nn (num T (p + 1) 4)))).1 30 = nn (p + 5) := a3
      generalize mA M8 26 (upd (M8.2.1 26) i (nn (num T (p + 1) 4))) = M10 at *
      by_cases e5 : T p = 105
      · have hlen : lenA (T p) = 6 := by rw [e5]; rfl
        have k5 : k = 5 := by omega
        rw [k5] at n4 n6
        rw [e5] at n6
        have hlet := let_no h510 hT10 hm h3010 (by omega) (by
          rcases n6 with n6 | n6
          · exact Or.inl n6
          · exact Or.inr (ms_l.2.mp n6))
        obtain ⟨M1, b1, b2, b3⟩ := b158_m1 (M := M10) (c := T p) hi
        rw [if_pos (by rw [e5]; rfl), hlet, ob2_some]
        exact ⟨M1, b1, f8.trans b2, by rw [b3, h3010, n4], by omega⟩
      · rw [if_neg (by rw [q105, nn_eq (by omega) (by omega)]; exact e5), q2]
        by_cases k6 : k ≤ 6
        · have d2 := act_dig (m := m) (T := T) (p := p) (d := k - 5) (k0 := 5) rfl (fun j hj => by omega) (fun j h1 h2 => n5 j h1 (by omega)) (by omega)
          obtain ⟨M14, b1, b2, b3⟩ := dig_no (d := 2) (e := k - 5) h510 hT10 hm h3010 (by omega) (by omega) d2 (by omega) (by
            rw [show p + 5 + (k - 5) = p + k by omega]
            rcases n6 with n6 | n6
            · exact Or.inl n6
            · exact Or.inr ((ms_d (by omega)).2.mp n6))
          obtain ⟨M1, c1, c2, c3⟩ := b158_m1 (M := M14) (c := T p) hi
          rw [b1, ob2_some]
          exact ⟨M1, c1, f8.trans ((b2.fac i).trans c2), by rw [c3, b3, n4, show p + 5 + (k - 5) = p + k by omega], by omega⟩
        · have d2 := act_dig (m := m) (T := T) (p := p) (d := 2) (k0 := 5) rfl (fun j hj => by omega) (fun j h1 h2 => n5 j h1 (by omega)) (by omega)
          obtain ⟨M14, b1, b2, b3⟩ := dig_ok (d := 2) h510 hT10 hm h3010 (by omega) d2
          have hnum2 := num_le (T := T) (p := p + 5) (d := 2) (fun j hj => (d2 j hj).2.2)
          have hnum2' : num T (p + 5) 2 < 2147483648 := by
            have : (10 : Nat) ^ 2 = 100 := by decide
            omega
          have e6 : T p ≠ 100 := by
            intro e6
            rw [e6] at n3
            exact absurd n3 (by have : lenA 100 = 7 := rfl; omega)
          rw [b1, ob2_some, b158_nn hi hnum2' (by omega), if_neg (by omega)]
          have f14 : FAc M (mA M14 27 (upd (M14.2.1 27) i (nn (num T (p + 5) 2)))) i := f8.trans ((b2.fac i).trans (FAc.arr M14 _ (by omega) (by omega)))
          have m30 : (mA M14 27 (upd (M14.2.1 27) i (nn (num T (p + 5) 2)))).1 30 = nn (p + 7) := b3
          generalize mA M14 27 (upd (M14.2.1 27) i (nn (num T (p + 5) 2))) = M15 at *
          have d3 := act_dig (m := m) (T := T) (p := p) (d := k - 7) (k0 := 7) rfl (fun j hj => by omega) (fun j h1 h2 => n5 j h1 (by omega)) (by omega)
          obtain ⟨M6, c1, c2, c3⟩ := dig_no (d := 4) (e := k - 7) ((f14.1 5 (by decide) (by decide)).trans h5) (f14.tx hT) hm m30 (by omega) (by omega) d3 (by omega) (by
            rw [show p + 7 + (k - 7) = p + k by omega]
            rcases n6 with n6 | n6
            · exact Or.inl n6
            · exact Or.inr ((ms_d (by omega)).2.mp n6))
          rw [c1, ob2_some, wr_nn hi (by omega), ob1_some, rd_nn hi (by omega), ob1_some, mA_at, if_pos (by decide)]
          refine ⟨_, rfl, f14.trans ((c2.fac i).trans (FAc.arr M6 _ (by omega) (by omega))), ?_, by omega⟩
          show M6.1 30 = _
          rw [c3, n4, show p + 7 + (k - 7) = p + k by omega]
end RN
/-! the whole text -/
def pos (T : Nat → Nat) : Nat → Nat
  | 0 => 0
  | i + 1 => pos T i + lenA (T (pos T i))
theorem pos_ge {T : Nat → Nat} {m : Nat} : ∀ i, (∀ j, j < i → vA T m (pos T j)) → i ≤ pos T i := by
  intro i
  induction i with
  | zero => intro _; exact Nat.le_refl _
  | succ i ih =>
    intro h
    have h1 := ih (fun j hj => h j (by omega))
    have h2 := (h i (by omega)).1
    show i + 1 ≤ pos T i + lenA (T (pos T i))
    omega
/-- the text is parsed: a fault, or acts up to its end -/
theorem parse {T : Nat → Nat} {m : Nat} : (∃ n, pos T n = m ∧ ∀ j, j < n → vA T m (pos T j) ∧ pos T j < m) ∨ ∃ n F, (∀ j, j < n → vA T m (pos T j) ∧ pos T j < m) ∧ pos T n < m ∧ nA T m (pos T n) F := by
  have key : ∀ fu i, m - pos T i ≤ fu → pos T i ≤ m → (∀ j, j < i → vA T m (pos T j) ∧ pos T j < m) → (∃ n, pos T n = m ∧ ∀ j, j < n → vA T m (pos T j) ∧ pos T j < m) ∨ ∃ n F, (∀ j, j < n → vA T m (pos T j) ∧ pos T j < m) ∧ pos T n < m ∧ nA T m (pos T n) F := by
    intro fu
    induction fu with
    | zero =>
      intro i h1 h2 h3
      exact Or.inl ⟨i, by omega, h3⟩
    | succ fu ih =>
      intro i h1 h2 h3
      by_cases e : pos T i = m
      · exact Or.inl ⟨i, e, h3⟩
      · rcases vnA (T := T) (m := m) (p := pos T i) (by omega) with hv | ⟨F, hn⟩
        · refine ih (i + 1) ?_ ?_ ?_
          · show m - (pos T i + lenA (T (pos T i))) ≤ fu
            have := hv.1
            omega
          · exact hv.2.1
          · intro j hj
            by_cases e2 : j = i
            · rw [e2]
              exact ⟨hv, by omega⟩
            · exact h3 j (by omega)
        · exact Or.inr ⟨i, F, h3, by omega, hn⟩
  exact key m 0 (by show m - 0 ≤ m; omega) (Nat.zero_le _) (fun j hj => by omega)
theorem flt_all {G : zH} {a : TA} {ro : TR} {st : TS} {hi : TH} {ke : TK} {pg qg : TP} {sc : Nat → Int32} {T : Nat → Nat} {m n : Nat} (h : FX G a ro st hi ke pg qg sc) (hT : ∀ i, i < 80 → a.1 i = nn (T i) ∧ T i ≤ 255) (hm : m ≤ 80) (hv : ∀ j, j < n → vA T m (pos T j) ∧ pos T j < m) (hn : n ≤ 80) : ∃ fu, fu ≥ 100 ∧ fX6_faultOfDay G 0 (nn m) = fX6_faultOfDay_b2 G fu 0 (nn m) (nn (pos T n)) := by
  have key : ∀ i, i ≤ n → ∃ fu, fu + i = FU ∧ fX6_faultOfDay G 0 (nn m) = fX6_faultOfDay_b2 G fu 0 (nn m) (nn (pos T i)) := by
    intro i
    induction i with
    | zero => intro _; exact ⟨FU, rfl, rfl⟩
    | succ i ih =>
      intro hi'
      obtain ⟨fu, h1, h2⟩ := ih (by omega)
      rw [FU_eq] at h1
      obtain ⟨fu', rfl⟩ : ∃ fu', fu = fu' + 1 := ⟨fu - 1, by omega⟩
      refine ⟨fu', by rw [FU_eq]; omega, ?_⟩
      rw [h2, flt_ok h hT hm (hv i (by omega)).2 (hv i (by omega)).1]
      rfl
  obtain ⟨fu, h1, h2⟩ := key n (Nat.le_refl _)
  rw [FU_eq] at h1
  exact ⟨fu, by omega, h2⟩
/-- the reference after i acts -/
def Rd (M0 M : MS) (T : Nat → Nat) (i : Nat) : Prop := M.1 29 = nn i ∧ M.1 30 = nn (pos T i) ∧ (∀ j, j < i → AR M T j (pos T j)) ∧ (∀ j, j ≠ 29 → j ≠ 30 → M.1 j = M0.1 j) ∧ (∀ j, j < 25 ∨ 28 < j → M.2.1 j = M0.2.1 j) ∧ M.2.2 = M0.2.2
theorem AR.cg {M M1 : MS} {T : Nat → Nat} {i p : Nat} (h : AR M T i p) (e : ∀ j, 25 ≤ j → j ≤ 28 → M1.2.1 j i = M.2.1 j i) : AR M1 T i p := by
  unfold AR at *
  rw [e 25 (by omega) (by omega), e 26 (by omega) (by omega), e 27 (by omega) (by omega), e 28 (by omega) (by omega)]
  exact h
theorem Rd.step {M0 M M1 : MS} {T : Nat → Nat} {i : Nat} (h : Rd M0 M T i) (h2 : FAc M M1 i) (h29 : M1.1 29 = nn (i + 1)) (h30 : M1.1 30 = nn (pos T i + lenA (T (pos T i)))) (hA : AR M1 T i (pos T i)) : Rd M0 M1 T (i + 1) := by
  obtain ⟨a1, a2, a3, a4, a5, a6⟩ := h
  refine ⟨h29, h30, fun j hj => ?_, fun j x y => (h2.1 j x y).trans (a4 j x y), fun j x => (h2.2.1 j x).trans (a5 j x), h2.2.2.2.trans a6⟩
  by_cases e : j = i
  · rw [e]
    exact hA
  · exact (a3 j (by omega)).cg (fun k k1 k2 => h2.2.2.1 k j k1 k2 e)
theorem read_all {A B : zH} {M0 : MS} {T : Nat → Nat} {m n : Nat} (h5 : M0.1 5 = nn m) (hT : ∀ i, i < 80 → M0.2.1 3 i = nn (T i) ∧ T i ≤ 255) (hm : m ≤ 80) (h29 : M0.1 29 = nn 0) (h30 : M0.1 30 = nn 0) (hv : ∀ j, j < n → vA T m (pos T j) ∧ pos T j < m) (hn : n ≤ 80) : ∃ M fu, fu ≥ 100 ∧ Rd M0 M T n ∧ fX7_day_b20 A FU M0 B = fX7_day_b20 A fu M B := by
  have key : ∀ i, i ≤ n → ∃ M fu, fu + i = FU ∧ Rd M0 M T i ∧ fX7_day_b20 A FU M0 B = fX7_day_b20 A fu M B := by
    intro i
    induction i with
    | zero => intro _; exact ⟨M0, FU, rfl, ⟨h29, h30, fun j hj => by omega, fun _ _ _ => rfl, fun _ _ => rfl, rfl⟩, rfl⟩
    | succ i ih =>
      intro hi'
      obtain ⟨M, fu, h1, h2, h3⟩ := ih (by omega)
      rw [FU_eq] at h1
      obtain ⟨fu', rfl⟩ : ∃ fu', fu = fu' + 1 := ⟨fu - 1, by omega⟩
      have hlt := (hv i (by omega)).2
      obtain ⟨M1, r1, r2, r3, r4, r5⟩ := rA_ok ((h2.2.2.2.1 5 (by decide) (by decide)).trans h5) (fun j hj => by rw [h2.2.2.2.2.1 3 (by omega)]; exact hT j hj) hm h2.2.1 h2.1 (by omega) hlt (hv i (by omega)).1
      refine ⟨M1, fu', by rw [FU_eq]; omega, h2.step r2 r3 r4 r5, ?_⟩
      rw [h3, fX7_day_b20, (h2.2.2.2.1 5 (by decide) (by decide)).trans h5, h2.2.1, if_le (by omega) (by omega), if_neg (by omega), r1, ob2_some, if_neg (by decide)]
  obtain ⟨M, fu, h1, h2, h3⟩ := key n (Nat.le_refl _)
  rw [FU_eq] at h1
  exact ⟨M, fu, by omega, h2, h3⟩
