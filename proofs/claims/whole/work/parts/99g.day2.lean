/-! the reference reads an act -/
def FAc (M M1 : MS) (i : Nat) : Prop := (∀ j, j ≠ 29 → j ≠ 30 → M1.1 j = M.1 j) ∧ (∀ j, j < 25 ∨ 28 < j → M1.2.1 j = M.2.1 j) ∧ (∀ j q, 25 ≤ j → j ≤ 28 → q ≠ i → M1.2.1 j q = M.2.1 j q) ∧ M1.2.2 = M.2.2
theorem FAc.refl (M : MS) (i : Nat) : FAc M M i := ⟨fun _ _ _ => rfl, fun _ _ => rfl, fun _ _ _ _ _ => rfl, rfl⟩
theorem FAc.trans {M M1 M2 : MS} {i : Nat} (h : FAc M M1 i) (h2 : FAc M1 M2 i) : FAc M M2 i := ⟨fun j a b => (h2.1 j a b).trans (h.1 j a b), fun j a => (h2.2.1 j a).trans (h.2.1 j a), fun j q a b c => (h2.2.2.1 j q a b c).trans (h.2.2.1 j q a b c), h2.2.2.2.trans h.2.2.2⟩
theorem F30.fac {M M1 : MS} (h : F30 M M1) (i : Nat) : FAc M M1 i := ⟨fun j _ b => h.1 j b, fun j _ => by rw [h.2], fun j q _ _ _ => by rw [h.2], by rw [h.2]⟩
theorem FAc.arr (M : MS) {i k : Nat} (x : Int32) (h1 : 25 ≤ k) (h2 : k ≤ 28) : FAc M (mA M k (upd (M.2.1 k) i x)) i := by
  refine ⟨fun _ _ _ => rfl, fun j hj => if_neg (by omega), fun j q a b c => ?_, rfl⟩
  show va_up M.2.1 k _ j q = _
  by_cases e : j = k
  · rw [e, show ∀ y, va_up M.2.1 k y k = y from fun y => if_pos rfl]
    exact upd_ne _ _ c
  · rw [show ∀ y, va_up M.2.1 k y j = M.2.1 j from fun y => if_neg e]
theorem mA_at (M : MS) (k i : Nat) (x : Int32) : (mA M k (upd (M.2.1 k) i x)).2.1 k i = x := by
  show va_up M.2.1 k _ k i = x
  rw [show ∀ y, va_up M.2.1 k y k = y from fun y => if_pos rfl]
  exact upd_same _ _ _
theorem mA_ne (M : MS) {k j : Nat} (f : Nat → Int32) (h : j ≠ k) : (mA M k f).2.1 j = M.2.1 j := if_neg h
def AR (M : MS) (T : Nat → Nat) (i p : Nat) : Prop := M.2.1 25 i = nn (T p) ∧ (T p = 100 ∨ T p = 105 ∨ T p = 108 ∨ T p = 109 → M.2.1 26 i = nn (num T (p + 1) 4)) ∧ (T p = 105 → M.2.1 27 i = nn (lt' (T (p + 5)))) ∧ (T p = 100 ∨ T p = 108 ∨ T p = 109 → M.2.1 27 i = nn (num T (p + 5) 2)) ∧ (T p = 108 ∨ T p = 109 → M.2.1 28 i = nn (num T (p + 7) 4))
theorem num_le {T : Nat → Nat} {p d : Nat} (h : ∀ j, j < d → T (p + j) ≤ 57) : num T p d + 1 ≤ 10 ^ d := by
  induction d with
  | zero => exact Nat.le_refl _
  | succ d ih =>
    have h1 := ih (fun j hj => h j (by omega))
    have h2 := h d (by omega)
    show 10 * num T p d + T (p + d) - 48 + 1 ≤ 10 ^ (d + 1)
    rw [Nat.pow_succ]
    omega
def rest54 (M3 : MS) (x1 y7 : Int32) : Option (Int32 × MS) := ob2 (fX7_digits M3 (4 : Int32)) fun v9 M8 => ob1 (wr 80 y7 (mA M8 26 (upd (M8.2.1 26) y7.toNatClampNeg v9))) fun M10 => ob1 (rd 80 (M10.2.1 26) y7) fun v11 => if 0 ≤ v11 then (if x1 = (105 : Int32) then (ob2 (fX7_letter M10) fun v17 M16 => fX7_readsAct_b158 M16 x1 y7 v17 y7) else ob2 (fX7_digits M10 (2 : Int32)) fun v15 M14 => fX7_readsAct_b158 M14 x1 y7 v15 y7) else fX7_readsAct_b158 M10 x1 y7 (-1 : Int32) y7
section RA
variable {M : MS} {T : Nat → Nat} {m p i c : Nat}
theorem b54_st (h30 : M.1 30 = nn p) (h29 : M.1 29 = nn i) (hi : i < 80) : ∃ M3, M3.1 30 = nn (p + 1) ∧ M3.1 29 = nn (i + 1) ∧ M3.2.1 25 i = nn c ∧ FAc M M3 i ∧ fX7_readsAct_b54 M (nn c) = (if nn c = (104 : Int32) then (some ((1 : Int32), M3)) else if nn c = (117 : Int32) then (some ((1 : Int32), M3)) else if nn c = (114 : Int32) then (some ((1 : Int32), M3)) else rest54 M3 (nn c) (nn i)) := by
  refine ⟨mI (mA (mI M 30 (nn (p + 1))) 25 (upd (M.2.1 25) i (nn c))) 29 (nn (i + 1)), rfl, rfl, mA_at (mI M 30 (nn (p + 1))) 25 i (nn c), ?_, ?_⟩
  · have f1 : FAc M (mI M 30 (nn (p + 1))) i := ⟨fun j _ b => upd_ne _ _ b, fun _ _ => rfl, fun _ _ _ _ _ => rfl, rfl⟩
    have f2 := FAc.arr (mI M 30 (nn (p + 1))) (i := i) (k := 25) (nn c) (by omega) (by omega)
    refine (f1.trans f2).trans ⟨fun j a _ => upd_ne _ _ a, fun _ _ => rfl, fun _ _ _ _ _ => rfl, rfl⟩
  · unfold fX7_readsAct_b54
    rw [h30, q1, nn_add, zlt]
    have h1 : (mI M 30 (nn (p + 1))).1 29 = nn i := h29
    rw [h1, wr_nn hi (by omega), ob1_some, nn_tn (by omega)]
    have h2 : (mA (mI M 30 (nn (p + 1))) 25 (upd (M.2.1 25) i (nn c))).1 29 = nn i := h29
    change zlet (mI (mA (mI M 30 (nn (p + 1))) 25 (upd (M.2.1 25) i (nn c))) 29 ((mA (mI M 30 (nn (p + 1))) 25 (upd (M.2.1 25) i (nn c))).1 29 + nn 1)) _ = _
    rw [h2, nn_add, zlt]
    have h3 : (mI (mA (mI M 30 (nn (p + 1))) 25 (upd (M.2.1 25) i (nn c))) 29 (nn (i + 1))).1 29 = nn (i + 1) := rfl
    rw [h3, nn_sub (by omega), Nat.add_sub_cancel, zlt]
    rfl
theorem b158_m1 (hi : i < 80) : ∃ M1, fX7_readsAct_b158 M (nn c) (nn i) (-1) (nn i) = some (nn 0, M1) ∧ FAc M M1 i ∧ M1.1 30 = M.1 30 := by
  refine ⟨mA M 27 (upd (M.2.1 27) i (-1)), ?_, FAc.arr M _ (by omega) (by omega), rfl⟩
  unfold fX7_readsAct_b158
  rw [wr_nn hi (by omega), ob1_some, nn_tn (by omega), rd_nn hi (by omega), ob1_some, mA_at, if_pos (by decide)]
  unfold fX7_readsAct_b180
  rw [rd_nn hi (by omega), ob1_some, mA_at, if_pos (by decide)]
  rfl
theorem b158_nn {w : Nat} (hi : i < 80) (hw : w < 2147483648) (hc : c < 256) : fX7_readsAct_b158 M (nn c) (nn i) (nn w) (nn i) = if c = 105 ∨ c = 100 then some (nn 1, mA M 27 (upd (M.2.1 27) i (nn w))) else ob2 (fX7_digits (mA M 27 (upd (M.2.1 27) i (nn w))) (nn 4)) fun v7 M6 => ob1 (wr 80 (nn i) (mA M6 28 (upd (M6.2.1 28) i v7))) fun M8 => ob1 (rd 80 (M8.2.1 28) (nn i)) fun v9 => if v9 < 0 then (some ((0 : Int32), M8)) else some ((1 : Int32), M8) := by
  have hw0 : ¬ nn w < 0 := by rw [nn_neg hw]; exact id
  have b180 : fX7_readsAct_b180 (mA M 27 (upd (M.2.1 27) i (nn w))) (nn i) = some (nn 1, mA M 27 (upd (M.2.1 27) i (nn w))) := by
    unfold fX7_readsAct_b180
    rw [rd_nn hi (by omega), ob1_some, mA_at, if_neg hw0]
    rfl
  unfold fX7_readsAct_b158
  rw [wr_nn hi (by omega), ob1_some, nn_tn (by omega), rd_nn hi (by omega), ob1_some, mA_at, if_neg hw0, b180, q105, if_eq (by omega) (by omega), q100, if_eq (by omega) (by omega)]
  by_cases e1 : c = 105
  · rw [if_pos e1, if_pos (Or.inl e1)]
  · rw [if_neg e1]
    by_cases e2 : c = 100
    · rw [if_pos e2, if_pos (Or.inr e2)]
    · rw [if_neg e2, if_neg (by omega)]
      rfl
theorem r54_no {M8 : MS} (hi : i < 80) (e : fX7_digits M (nn 4) = some (-1, M8)) : ∃ M1, rest54 M (nn c) (nn i) = some (nn 0, M1) ∧ FAc M8 M1 i ∧ M1.1 30 = M8.1 30 := by
  obtain ⟨M1, a1, a2, a3⟩ := b158_m1 (M := mA M8 26 (upd (M8.2.1 26) i (-1))) (c := c) hi
  refine ⟨M1, ?_, (FAc.arr M8 _ (by omega) (by omega)).trans a2, a3⟩
  unfold rest54
  rw [q4, e, ob2_some, wr_nn hi (by omega), ob1_some, nn_tn (by omega), rd_nn hi (by omega), ob1_some, mA_at, if_neg (by decide)]
  exact a1
theorem r54_go {M8 : MS} {v : Nat} (hi : i < 80) (hv : v < 2147483648) (e : fX7_digits M (nn 4) = some (nn v, M8)) : rest54 M (nn c) (nn i) = if nn c = (105 : Int32) then (ob2 (fX7_letter (mA M8 26 (upd (M8.2.1 26) i (nn v)))) fun v17 M16 => fX7_readsAct_b158 M16 (nn c) (nn i) v17 (nn i)) else ob2 (fX7_digits (mA M8 26 (upd (M8.2.1 26) i (nn v))) (2 : Int32)) fun v15 M14 => fX7_readsAct_b158 M14 (nn c) (nn i) v15 (nn i) := by
  unfold rest54
  rw [q4, e, ob2_some, wr_nn hi (by omega), ob1_some, nn_tn (by omega), rd_nn hi (by omega), ob1_some, mA_at, if_pos (by rw [q0, nn_le (by omega) hv]; omega)]
theorem lenA_0 {c : Nat} (h : lenA c = 0) : c ≠ 100 ∧ c ≠ 104 ∧ c ≠ 105 ∧ c ≠ 108 ∧ c ≠ 109 ∧ c ≠ 114 ∧ c ≠ 117 := by
  refine ⟨?_, ?_, ?_, ?_, ?_, ?_, ?_⟩ <;> (intro e; rw [e] at h; exact absurd h (by decide))
theorem lenA_n {c : Nat} (h : lenA c ≠ 0) : (c = 104 ∨ c = 117 ∨ c = 114) ∨ c = 100 ∨ c = 105 ∨ c = 108 ∨ c = 109 := by
  unfold lenA at h
  by_cases e1 : c = 100
  · omega
  · rw [if_neg e1] at h
    by_cases e2 : c = 104
    · omega
    · rw [if_neg e2] at h
      by_cases e3 : c = 105
      · omega
      · rw [if_neg e3] at h
        by_cases e4 : c = 108
        · omega
        · rw [if_neg e4] at h
          by_cases e5 : c = 109
          · omega
          · rw [if_neg e5] at h
            by_cases e6 : c = 114
            · omega
            · rw [if_neg e6] at h
              by_cases e7 : c = 117
              · omega
              · rw [if_neg e7] at h
                exact absurd rfl h
theorem rA_b54 (hT : ∀ i, i < 80 → M.2.1 3 i = nn (T i) ∧ T i ≤ 255) (h30 : M.1 30 = nn p) (hp : p < 80) (hl : lenA (T p) ≠ 0) : fX7_readsAct M = fX7_readsAct_b54 M (nn (T p)) := by
  obtain ⟨t1, t2⟩ := hT p hp
  unfold fX7_readsAct
  rw [h30, rd_nn hp (by omega), ob1_some, t1]
  rcases lenA_n hl with (e | e | e) | e | e | e | e <;> rw [e] <;> rfl
theorem rA_0 (hT : ∀ i, i < 80 → M.2.1 3 i = nn (T i) ∧ T i ≤ 255) (h30 : M.1 30 = nn p) (hp : p < 80) (hl : lenA (T p) = 0) : fX7_readsAct M = some (nn 0, M) := by
  obtain ⟨t1, t2⟩ := hT p hp
  obtain ⟨l1, l2, l3, l4, l5, l6, l7⟩ := lenA_0 hl
  unfold fX7_readsAct
  rw [h30, rd_nn hp (by omega), ob1_some, t1, q105, q100, q108, q109, q104, q117, q114, if_eq (by omega) (by omega), if_eq (by omega) (by omega), if_eq (by omega) (by omega), if_eq (by omega) (by omega), if_eq (by omega) (by omega), if_eq (by omega) (by omega), if_eq (by omega) (by omega), if_neg l3, if_neg l1, if_neg l4, if_neg l5, if_neg l2, if_neg l7, if_neg l6]
  rfl
theorem FAc.tx {M1 : MS} (h : FAc M M1 i) (hT : ∀ i, i < 80 → M.2.1 3 i = nn (T i) ∧ T i ≤ 255) : ∀ i, i < 80 → M1.2.1 3 i = nn (T i) ∧ T i ≤ 255 := fun j hj => by rw [h.2.1 3 (by omega)]; exact hT j hj
theorem ms_d {c k v : Nat} (h : ¬ (c = 105 ∧ k = 5)) : (ms c k v = 1 ↔ 48 ≤ v ∧ v ≤ 57) ∧ (ms c k v = 0 ↔ ¬ (48 ≤ v ∧ v ≤ 57)) := by
  unfold ms
  rw [if_neg h]
  by_cases e : 48 ≤ v ∧ v ≤ 57
  · rw [if_pos e]
    exact ⟨⟨fun _ => e, fun _ => rfl⟩, ⟨fun h => absurd h (by decide), fun h => absurd e h⟩⟩
  · rw [if_neg e]
    exact ⟨⟨fun h => absurd h (by decide), fun h => absurd h e⟩, ⟨fun _ => e, fun _ => rfl⟩⟩
theorem ms_l {v : Nat} : (ms 105 5 v = 1 ↔ (97 ≤ v ∧ v ≤ 122) ∨ v = 47) ∧ (ms 105 5 v = 0 ↔ ¬ ((97 ≤ v ∧ v ≤ 122) ∨ v = 47)) := by
  unfold ms
  rw [if_pos ⟨rfl, rfl⟩]
  by_cases e : (97 ≤ v ∧ v ≤ 122) ∨ v = 47
  · rw [if_pos e]
    exact ⟨⟨fun _ => e, fun _ => rfl⟩, ⟨fun h => absurd h (by decide), fun h => absurd e h⟩⟩
  · rw [if_neg e]
    exact ⟨⟨fun h => absurd h (by decide), fun h => absurd h e⟩, ⟨fun _ => e, fun _ => rfl⟩⟩
/-- the digits of an act: k0 .. k0 + d - 1 of it -/
theorem act_dig {k0 d L : Nat} (hL : L = lenA (T p)) (hne : ∀ j, j < d → ¬ (T p = 105 ∧ k0 + j = 5)) (hg : ∀ j, 1 ≤ j → j < k0 + d → p + j < m ∧ ms (T p) j (T (p + j)) = 1) (hk0 : 1 ≤ k0) : ∀ j, j < d → (p + k0) + j < m ∧ 48 ≤ T ((p + k0) + j) ∧ T ((p + k0) + j) ≤ 57 := by
  intro j hj
  obtain ⟨g1, g2⟩ := hg (k0 + j) (by omega) (by omega)
  rw [← Nat.add_assoc] at g1 g2
  exact ⟨g1, (ms_d (hne j hj)).1.mp g2⟩
theorem rA_ok (h5 : M.1 5 = nn m) (hT : ∀ i, i < 80 → M.2.1 3 i = nn (T i) ∧ T i ≤ 255) (hm : m ≤ 80) (h30 : M.1 30 = nn p) (h29 : M.1 29 = nn i) (hi : i < 80) (hp : p < m) (hv : vA T m p) : ∃ M1, fX7_readsAct M = some (nn 1, M1) ∧ FAc M M1 i ∧ M1.1 29 = nn (i + 1) ∧ M1.1 30 = nn (p + lenA (T p)) ∧ AR M1 T i p := by
  obtain ⟨v1, v2, v3⟩ := hv
  have hc := (hT p (by omega)).2
  have hg : ∀ j, 1 ≤ j → j < lenA (T p) → p + j < m ∧ ms (T p) j (T (p + j)) = 1 := fun j h1 h2 => ⟨by omega, v3 j h1 h2⟩
  obtain ⟨M3, s1, s2, s3, s4, s5⟩ := b54_st (M := M) (c := T p) h30 h29 hi
  rw [rA_b54 hT h30 (by omega) v1, s5]
  have h53 : M3.1 5 = nn m := (s4.1 5 (by decide) (by decide)).trans h5
  have hT3 := s4.tx hT
  have ar1 : (T p = 104 ∨ T p = 117 ∨ T p = 114) → AR M3 T i p := fun h => ⟨s3, fun h' => by omega, fun h' => by omega, fun h' => by omega, fun h' => by omega⟩
  rcases lenA_n v1 with (e | e | e) | e
  · refine ⟨M3, ?_, s4, s2, ?_, ar1 (by omega)⟩
    · rw [if_pos (by rw [e]; rfl)]
      rfl
    · rw [s1, e]
      rfl
  · refine ⟨M3, ?_, s4, s2, ?_, ar1 (by omega)⟩
    · rw [if_neg (by rw [e]; decide), if_pos (by rw [e]; rfl)]
      rfl
    · rw [s1, e]
      rfl
  · refine ⟨M3, ?_, s4, s2, ?_, ar1 (by omega)⟩
    · rw [if_neg (by rw [e]; decide), if_neg (by rw [e]; decide), if_pos (by rw [e]; rfl)]
      rfl
    · rw [s1, e]
      rfl
  · have hL6 : 6 ≤ lenA (T p) := by
      rcases e with e | e | e | e <;> (rw [e]; decide)
    have d4 := act_dig (m := m) (d := 4) (k0 := 1) rfl (fun j hj => by omega) (fun j h1 h2 => hg j h1 (by omega)) (Nat.le_refl _)
    obtain ⟨M8, a1, a2, a3⟩ := dig_ok (d := 4) h53 hT3 hm s1 (by omega) d4
    have hnum := num_le (T := T) (p := p + 1) (d := 4) (fun j hj => (d4 j hj).2.2)
    have hnum' : num T (p + 1) 4 < 2147483648 := by have : (10 : Nat) ^ 4 = 10000 := by decide
                                                    omega
    rw [if_neg (by rcases e with e | e | e | e <;> (rw [e]; decide)), if_neg (by rcases e with e | e | e | e <;> (rw [e]; decide)), if_neg (by rcases e with e | e | e | e <;> (rw [e]; decide)), r54_go hi hnum' a1]
    have f8 : FAc M (mA M8 26 (upd (M8.2.1 26) i (nn (num T (p + 1) 4)))) i := s4.trans ((a2.fac i).trans (FAc.arr M8 _ (by omega) (by omega)))
    have h510 : (mA M8 26 (upd (M8.2.1 26) i (nn (num T (p + 1) 4)))).1 5 = nn m := (f8.1 5 (by decide) (by decide)).trans h5
    have hT10 := f8.tx hT
    have h3010 : (mA M8 26 (upd (M8.2.1 26) i (nn (num T (p + 1) 4)))).1 30 = nn (p + 5) := a3
    have h2910 : (mA M8 26 (upd (M8.2.1 26) i (nn (num T (p + 1) 4)))).1 29 = nn (i + 1) := (a2.1 29 (by decide)).trans s2
    have k25 : (mA M8 26 (upd (M8.2.1 26) i (nn (num T (p + 1) 4)))).2.1 25 i = nn (T p) := by
      rw [mA_ne _ _ (by decide), a2.2]
      exact s3
    have k26 : (mA M8 26 (upd (M8.2.1 26) i (nn (num T (p + 1) 4)))).2.1 26 i = nn (num T (p + 1) 4) := mA_at _ _ _ _
    generalize mA M8 26 (upd (M8.2.1 26) i (nn (num T (p + 1) 4))) = M10 at *
    by_cases e5 : T p = 105
    · have hlen : lenA (T p) = 6 := by rw [e5]; rfl
      obtain ⟨g1, g2⟩ := hg 5 (by omega) (by omega)
      rw [e5] at g2
      obtain ⟨M16, b1, b2, b3⟩ := let_ok h510 hT10 hm h3010 (by omega) (ms_l.1.mp g2)
      have hle := (hT (p + 5) (by omega)).2
      have hlt : lt' (T (p + 5)) < 2147483648 := by
        unfold lt'
        split <;> omega
      rw [if_pos (by rw [e5]; rfl), b1, ob2_some, b158_nn hi hlt (by omega), if_pos (Or.inl e5)]
      refine ⟨_, rfl, f8.trans ((b2.fac i).trans (FAc.arr M16 _ (by omega) (by omega))), (b2.1 29 (by decide)).trans h2910, ?_, ?_⟩
      · show M16.1 30 = _
        rw [b3, hlen]
      · refine ⟨?_, fun _ => ?_, fun _ => mA_at _ _ _ _, fun h => by omega, fun h => by omega⟩
        · rw [mA_ne _ _ (by decide), b2.2]
          exact k25
        · rw [mA_ne _ _ (by decide), b2.2]
          exact k26
    · have hL7 : 7 ≤ lenA (T p) := by
        rcases e with e | e | e | e
        · rw [e]; decide
        · exact absurd e e5
        · rw [e]; decide
        · rw [e]; decide
      have d2 := act_dig (m := m) (d := 2) (k0 := 5) rfl (fun j hj => by omega) (fun j h1 h2 => hg j h1 (by omega)) (by omega)
      obtain ⟨M14, b1, b2, b3⟩ := dig_ok (d := 2) h510 hT10 hm h3010 (by omega) d2
      have hnum2 := num_le (T := T) (p := p + 5) (d := 2) (fun j hj => (d2 j hj).2.2)
      have hnum2' : num T (p + 5) 2 < 2147483648 := by have : (10 : Nat) ^ 2 = 100 := by decide
                                                       omega
      rw [if_neg (by rw [q105, nn_eq (by omega) (by omega)]; exact e5), q2, b1, ob2_some, b158_nn hi hnum2' (by omega)]
      have f14 : FAc M (mA M14 27 (upd (M14.2.1 27) i (nn (num T (p + 5) 2)))) i := f8.trans ((b2.fac i).trans (FAc.arr M14 _ (by omega) (by omega)))
      have m25 : (mA M14 27 (upd (M14.2.1 27) i (nn (num T (p + 5) 2)))).2.1 25 i = nn (T p) := by
        rw [mA_ne _ _ (by decide), b2.2]
        exact k25
      have m26 : (mA M14 27 (upd (M14.2.1 27) i (nn (num T (p + 5) 2)))).2.1 26 i = nn (num T (p + 1) 4) := by
        rw [mA_ne _ _ (by decide), b2.2]
        exact k26
      have m27 : (mA M14 27 (upd (M14.2.1 27) i (nn (num T (p + 5) 2)))).2.1 27 i = nn (num T (p + 5) 2) := mA_at _ _ _ _
      have m30 : (mA M14 27 (upd (M14.2.1 27) i (nn (num T (p + 5) 2)))).1 30 = nn (p + 7) := b3
      have m29 : (mA M14 27 (upd (M14.2.1 27) i (nn (num T (p + 5) 2)))).1 29 = nn (i + 1) := (b2.1 29 (by decide)).trans h2910
      generalize mA M14 27 (upd (M14.2.1 27) i (nn (num T (p + 5) 2))) = M15 at *
      by_cases e6 : T p = 100
      · have hlen : lenA (T p) = 7 := by rw [e6]; rfl
        rw [if_pos (Or.inr e6)]
        exact ⟨M15, rfl, f14, m29, by rw [m30, hlen], m25, fun _ => m26, fun h => by omega, fun _ => m27, fun h => by omega⟩
      · have hlen : lenA (T p) = 11 := by
          have : T p = 108 ∨ T p = 109 := by omega
          rcases this with e | e <;> (rw [e]; rfl)
        have d3 := act_dig (m := m) (d := 4) (k0 := 7) rfl (fun j hj => by omega) (fun j h1 h2 => hg j h1 (by omega)) (by omega)
        obtain ⟨M6, c1, c2, c3⟩ := dig_ok (d := 4) ((f14.1 5 (by decide) (by decide)).trans h5) (f14.tx hT) hm m30 (by omega) d3
        have hnum3 := num_le (T := T) (p := p + 7) (d := 4) (fun j hj => (d3 j hj).2.2)
        have hnum3' : num T (p + 7) 4 < 2147483648 := by have : (10 : Nat) ^ 4 = 10000 := by decide
                                                         omega
        rw [if_neg (by omega), c1, ob2_some, wr_nn hi (by omega), ob1_some, rd_nn hi (by omega), ob1_some, mA_at, if_neg (by rw [nn_neg hnum3']; exact id)]
        refine ⟨_, rfl, f14.trans ((c2.fac i).trans (FAc.arr M6 _ (by omega) (by omega))), (c2.1 29 (by decide)).trans m29, ?_, ?_, fun _ => ?_, fun h => by omega, fun _ => ?_, fun _ => mA_at _ _ _ _⟩
        · show M6.1 30 = _
          rw [c3, hlen]
        · rw [mA_ne _ _ (by decide), c2.2]
          exact m25
        · rw [mA_ne _ _ (by decide), c2.2]
          exact m26
        · rw [mA_ne _ _ (by decide), c2.2]
          exact m27
end RA
