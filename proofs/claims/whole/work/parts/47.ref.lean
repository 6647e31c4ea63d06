/-! the reference: what it reads -/
theorem cmp_lt {x y : Int64} : (lg_cmp x y < 0) = (x.toInt < y.toInt) := by
  unfold lg_cmp
  by_cases h1 : x > y
  · rw [if_pos h1]
    have h1' : y < x := h1
    rw [Int64.lt_iff_toInt_lt] at h1'
    refine propext ⟨fun h => absurd h (by decide), fun h => by omega⟩
  · rw [if_neg h1]
    have h1' : ¬ y < x := h1
    rw [Int64.lt_iff_toInt_lt] at h1'
    by_cases h2 : x = y
    · rw [if_pos h2, h2]
      refine propext ⟨fun h => absurd h (by decide), fun h => by omega⟩
    · rw [if_neg h2]
      have : x.toInt ≠ y.toInt := fun e => h2 (Int64.toInt_inj.1 e)
      refine propext ⟨fun _ => by omega, fun _ => by decide⟩
theorem cmp_gt {x y : Int64} : (0 < lg_cmp x y) = (y.toInt < x.toInt) := by
  unfold lg_cmp
  by_cases h1 : x > y
  · rw [if_pos h1]
    have h1' : y < x := h1
    rw [Int64.lt_iff_toInt_lt] at h1'
    refine propext ⟨fun _ => h1', fun _ => by decide⟩
  · rw [if_neg h1]
    have h1' : ¬ y < x := h1
    rw [Int64.lt_iff_toInt_lt] at h1'
    by_cases h2 : x = y
    · rw [if_pos h2]
      refine propext ⟨fun h => absurd h (by decide), fun h => by omega⟩
    · rw [if_neg h2]
      refine propext ⟨fun h => absurd h (by decide), fun h => by omega⟩
theorem in_sp (x y z : Int64) : fX7_in x y z = some (nn (if y.toInt ≤ x.toInt ∧ x.toInt ≤ z.toInt then 1 else 0)) := by
  unfold fX7_in
  by_cases h1 : x.toInt < y.toInt
  · rw [if_pos (by rw [cmp_lt]; exact h1), if_neg (by omega)]
    rfl
  · rw [if_neg (by rw [cmp_lt]; exact h1)]
    by_cases h2 : z.toInt < x.toInt
    · rw [if_pos (by rw [cmp_gt]; exact h2), if_neg (by omega)]
      rfl
    · rw [if_neg (by rw [cmp_gt]; exact h2), if_pos (by omega)]
      rfl
theorem nn64 {a : Nat} (h : a < 2147483648) : (nn a).toInt64.toInt = (a : Int) := by rw [Int32.toInt_toInt64, nn_toInt h]
theorem ii64 {m : Int} (h1 : -2147483648 ≤ m) (h2 : m < 2147483648) : (ii m).toInt64.toInt = m := by rw [Int32.toInt_toInt64, ii_toInt h1 h2]
theorem z64 : (0 : Int64).toInt = 0 := rfl
theorem bz_nn {k : Nat} (h : k ≤ 1) : bz (nn k) = some (nn k) := by
  have : k = 0 ∨ k = 1 := by omega
  rcases this with rfl | rfl <;> rfl
theorem flag_nn {k : Nat} (h : k ≤ 1) : fX7_flag (nn k) = some (nn k) := by
  have : k = 0 ∨ k = 1 := by omega
  rcases this with rfl | rfl <;> rfl
theorem in_nn {a m : Nat} (ha : a < 2147483648) (hm : m < 2147483648) : fX7_in (nn a).toInt64 0 (nn m).toInt64 = some (nn (if a ≤ m then 1 else 0)) := by
  rw [in_sp, nn64 ha, nn64 hm, z64]
  by_cases e : a ≤ m
  · rw [if_pos e, if_pos (by omega)]
  · rw [if_neg e, if_neg (by omega)]
theorem in_neg {x : Int32} {z : Int64} (h : x < 0) : fX7_in x.toInt64 0 z = some (nn 0) := by
  rw [Int32.lt_iff_toInt_lt] at h
  have h' : x.toInt < 0 := h
  rw [in_sp, Int32.toInt_toInt64, z64, if_neg (by omega)]
def pl (s : Nat) : Nat := if s < 1600 then s else s + 6592
def cod (P : PC) (p : Nat) : Nat := 2 * pl (srcAt P p) + bgAt P p
def RBk (M : MS) (P : PC) : Prop := M.1 11 = nn (sz P) ∧ sz P ≤ 3000 ∧ ∀ p, p < sz P → M.2.1 10 p = nn (cod P p)
def RSt (M : MS) (St : Nat → Nat) (on an : Nat) : Prop := M.1 8 = nn on ∧ M.1 9 = nn an ∧ on ≤ 1600 ∧ an ≤ 6000 ∧ (∀ k, k < on → M.2.1 6 k = nn (St k)) ∧ ∀ k, k < an → M.2.1 7 k = nn (St (1600 + k))
theorem RBk.cg {M M' : MS} {P : PC} (h : RBk M P) (e1 : M'.1 11 = M.1 11) (e2 : M'.2.1 10 = M.2.1 10) : RBk M' P := by
  unfold RBk at *
  rw [e1, e2]
  exact h
theorem RSt.cg {M M' : MS} {St : Nat → Nat} {on an : Nat} (h : RSt M St on an) (e1 : M'.1 8 = M.1 8) (e2 : M'.1 9 = M.1 9) (e3 : M'.2.1 6 = M.2.1 6) (e4 : M'.2.1 7 = M.2.1 7) : RSt M' St on an := by
  unfold RSt at *
  rw [e1, e2, e3, e4]
  exact h
section Ref
variable {M : MS} {P : PC} {St : Nat → Nat} {on an p : Nat}
theorem src_lt (hk : okP on an P) (hon : on ≤ 1600) (han : an ≤ 6000) (hp : p < sz P) : srcAt P p < 7600 ∧ (srcAt P p < 1600 → srcAt P p < on) ∧ (1600 ≤ srcAt P p → srcAt P p < 1600 + an) := by
  have := okP_src hk hp
  omega
theorem cod_div (hk : okP on an P) (hon : on ≤ 1600) (han : an ≤ 6000) (hp : p < sz P) : cod P p / 2 = pl (srcAt P p) ∧ cod P p - cod P p / 2 * 2 = bgAt P p ∧ cod P p < 2147483648 := by
  have := src_lt hk hon han hp
  have hb := bgAt_le P p
  unfold cod pl
  split <;> omega
theorem storeAt_sp (h : RBk M P) (hk : okP on an P) (hon : on ≤ 1600) (han : an ≤ 6000) (hp : p < sz P) : fX7_storeAt M (nn p) = some (nn (if srcAt P p < 1600 then 0 else 1)) := by
  have hc := cod_div hk hon han hp
  have hs := src_lt hk hon han hp
  have hz := h.2.1
  unfold fX7_storeAt
  rw [rd_nn (by omega) (by omega), ob1_some, h.2.2 p hp, q2, nn_div hc.2.2 (by omega), hc.1, q8192, nn_div (by unfold pl; split <;> omega) (by omega)]
  unfold pl
  split
  · rw [Nat.div_eq_of_lt (by omega)]
  · rw [show (srcAt P p + 6592) / 8192 = 1 by omega]
theorem placeAt_sp (h : RBk M P) (hk : okP on an P) (hon : on ≤ 1600) (han : an ≤ 6000) (hp : p < sz P) : fX7_placeAt M (nn p) = some (nn (if srcAt P p < 1600 then srcAt P p else srcAt P p - 1600)) := by
  have hc := cod_div hk hon han hp
  have hs := src_lt hk hon han hp
  have hz := h.2.1
  unfold fX7_placeAt
  rw [rd_nn (by omega) (by omega), ob1_some, h.2.2 p hp, q2, nn_div hc.2.2 (by omega), hc.1, q8192, nn_div (by unfold pl; split <;> omega) (by omega), nn_mul, nn_sub (by unfold pl; split <;> omega)]
  congr 2
  unfold pl
  split <;> omega
theorem signAt7_sp (h : RBk M P) (hs : RSt M St on an) (hk : okP on an P) (hp : p < sz P) : fX7_signAt M (nn p) = some (nn (St (srcAt P p))) := by
  obtain ⟨-, -, hon, han, h6, h7⟩ := hs
  have hl := src_lt hk hon han hp
  unfold fX7_signAt
  rw [storeAt_sp h hk hon han hp, ob1_some, placeAt_sp h hk hon han hp, ob1_some]
  unfold fX7_ofStore
  by_cases e : srcAt P p < 1600
  · rw [if_pos e, if_pos e, if_pos (show nn 0 = 0 from rfl), rd_nn (by omega) (by omega), h6 _ (by omega)]
    rfl
  · rw [if_neg e, if_neg e, if_neg (by rw [q0, nn_eq (by omega) (by omega)]; omega), rd_nn (by omega) (by omega), h7 _ (by omega), show 1600 + (srcAt P p - 1600) = srcAt P p by omega]
    rfl
theorem begins_sp (h : RBk M P) (hk : okP on an P) (hon : on ≤ 1600) (han : an ≤ 6000) (hp : p < sz P) : fX7_begins M (nn p) = some (nn (bgAt P p)) := by
  have hc := cod_div hk hon han hp
  have hz := h.2.1
  have hb := bgAt_le P p
  unfold fX7_begins
  rw [rd_nn (by omega) (by omega), ob1_some, h.2.2 p hp, q2, nn_div hc.2.2 (by omega), nn_mul, nn_sub (by omega), hc.2.1, q1, if_eq (by omega) (by omega)]
  have : bgAt P p = 0 ∨ bgAt P p = 1 := by omega
  rcases this with e | e <;> rw [e] <;> rfl
theorem isPlace7_sp (h : RBk M P) (hp : p < 2147483648) : fX7_isPlace M (nn p) = some (nn (if p ≤ sz P then 1 else 0)) := by
  unfold fX7_isPlace
  rw [h.1, in_nn hp (by have := h.2.1; omega), ob1_some, bz_nn (by split <;> omega)]
  rfl
theorem isPlace7_neg {x : Int32} (hx : x < 0) : fX7_isPlace M x = some (nn 0) := by
  unfold fX7_isPlace
  rw [in_neg hx]
  rfl
theorem isSign7_sp (h : RBk M P) (hp : p < 2147483648) : fX7_isSign M (nn p) = some (nn (if p < sz P then 1 else 0)) := by
  have hz := h.2.1
  unfold fX7_isSign
  rw [h.1]
  by_cases e : sz P = 0
  · rw [e, in_sp, if_neg (by rw [z64, nn64 hp]; have : (nn 0 - 1).toInt64.toInt = -1 := rfl; rw [this]; omega), ob1_some, if_neg (by omega)]
    rfl
  · rw [q1, nn_sub (by omega), in_nn hp (by omega), ob1_some, bz_nn (by split <;> omega)]
    by_cases e2 : p < sz P
    · rw [if_pos e2, if_pos (by omega)]
      rfl
    · rw [if_neg e2, if_neg (by omega)]
      rfl
theorem isSign7_neg {x : Int32} (hx : x < 0) : fX7_isSign M x = some (nn 0) := by
  unfold fX7_isSign
  rw [in_neg hx]
  rfl
end Ref
