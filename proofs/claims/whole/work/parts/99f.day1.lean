/-! a day's text: what may stand where -/
def lenA (c : Nat) : Nat := if c = 100 then 7 else if c = 104 then 1 else if c = 105 then 6 else if c = 108 then 11 else if c = 109 then 11 else if c = 114 then 1 else if c = 117 then 1 else 0
theorem lenA6 : ∀ c, c < 256 → fX6_lengthOfAct (nn c) = some (nn (lenA c)) := by decide +kernel
theorem lenA_le : ∀ c, c < 256 → lenA c ≤ 11 := by decide +kernel
def ms (c k v : Nat) : Nat := if c = 105 ∧ k = 5 then (if (97 ≤ v ∧ v ≤ 122) ∨ v = 47 then 1 else 0) else if 48 ≤ v ∧ v ≤ 57 then 1 else 0
theorem dig6 : ∀ v, v < 256 → fX6_isDigit (nn v) = some (nn (if 48 ≤ v ∧ v ≤ 57 then 1 else 0)) := by decide +kernel
theorem sml6 : ∀ v, v < 256 → fX6_isSmall (nn v) = some (nn (if 97 ≤ v ∧ v ≤ 122 then 1 else 0)) := by decide +kernel
theorem ms_le (c k v : Nat) : ms c k v ≤ 1 := by
  unfold ms
  split
  · split <;> omega
  · split <;> omega
theorem ms6 {c k v : Nat} (hc : c < 256) (hk : k < 256) (hv : v < 256) : fX6_mayStand (nn c) (nn k) (nn v) = some (nn (ms c k v)) := by
  have b30 : fX6_mayStand_b30 (nn v) = some (nn (if 48 ≤ v ∧ v ≤ 57 then 1 else 0)) := by
    unfold fX6_mayStand_b30
    rw [dig6 v hv, ob1_some, bz_nn (by split <;> omega), ob1_some]
  unfold fX6_mayStand fX6_mayStand_b24 ms
  rw [q105, if_eq (by omega) (by omega)]
  by_cases e1 : c = 105
  · rw [if_pos e1, q5, if_eq (by omega) (by omega)]
    by_cases e2 : k = 5
    · rw [if_pos e2, if_pos (show c = 105 ∧ k = 5 from ⟨e1, e2⟩), sml6 v hv, ob1_some]
      by_cases e3 : 97 ≤ v ∧ v ≤ 122
      · rw [if_pos e3, if_neg (show ¬ nn 1 = 0 by decide), if_pos (show (97 ≤ v ∧ v ≤ 122) ∨ v = 47 from Or.inl e3)]
        rfl
      · rw [if_neg e3, if_pos z0, q47, if_eq (by omega) (by omega)]
        by_cases e4 : v = 47
        · rw [if_pos e4, if_pos (show (97 ≤ v ∧ v ≤ 122) ∨ v = 47 from Or.inr e4)]
          rfl
        · rw [if_neg e4, if_neg (show ¬ ((97 ≤ v ∧ v ≤ 122) ∨ v = 47) by omega)]
          rfl
    · rw [if_neg e2, if_neg (fun h => e2 h.2)]
      exact b30
  · rw [if_neg e1, if_neg (fun h => e1 h.1)]
    exact b30
/-- an act at p is as it must be -/
def vA (T : Nat → Nat) (m p : Nat) : Prop := lenA (T p) ≠ 0 ∧ p + lenA (T p) ≤ m ∧ ∀ k, 1 ≤ k → k < lenA (T p) → ms (T p) k (T (p + k)) = 1
/-- it is not, at F -/
def nA (T : Nat → Nat) (m p F : Nat) : Prop := (lenA (T p) = 0 ∧ F = p) ∨ (lenA (T p) ≠ 0 ∧ ∃ k, 1 ≤ k ∧ k < lenA (T p) ∧ F = p + k ∧ (∀ j, 1 ≤ j → j < k → p + j < m ∧ ms (T p) j (T (p + j)) = 1) ∧ (m ≤ p + k ∨ ms (T p) k (T (p + k)) = 0))
theorem vnA {T : Nat → Nat} {m p : Nat} (hp : p < m) : vA T m p ∨ ∃ F, nA T m p F := by
  by_cases e : lenA (T p) = 0
  · exact Or.inr ⟨p, Or.inl ⟨e, rfl⟩⟩
  · obtain ⟨K, hK⟩ : ∃ K, K = fstF (fun k => decide (m ≤ p + k ∨ ms (T p) k (T (p + k)) = 0)) 1 (lenA (T p) - 1) := ⟨_, rfl⟩
    have hle := fstF_le (fun k => decide (m ≤ p + k ∨ ms (T p) k (T (p + k)) = 0)) 1 (lenA (T p) - 1)
    rw [← hK] at hle
    have hno : ∀ j, 1 ≤ j → j < K → p + j < m ∧ ms (T p) j (T (p + j)) = 1 := by
      intro j h1 h2
      have := fstF_no (b := fun k => decide (m ≤ p + k ∨ ms (T p) k (T (p + k)) = 0)) h1 (by rw [← hK]; exact h2)
      have h3 := of_decide_eq_false this
      have := ms_le (T p) j (T (p + j))
      omega
    by_cases e1 : K < lenA (T p)
    · refine Or.inr ⟨p + K, Or.inr ⟨e, K, by omega, e1, rfl, hno, ?_⟩⟩
      have := fstF_at (b := fun k => decide (m ≤ p + k ∨ ms (T p) k (T (p + k)) = 0)) (p := 1) (d := lenA (T p) - 1) (by rw [← hK]; omega)
      rw [← hK] at this
      exact of_decide_eq_true this
    · refine Or.inl ⟨e, ?_, fun k h1 h2 => (hno k h1 (by omega)).2⟩
      by_cases e2 : lenA (T p) = 1
      · omega
      · have := (hno (lenA (T p) - 1) (by omega) (by omega)).1
        omega
section Flt
variable {G : zH} {a : TA} {ro : TR} {st : TS} {hi : TH} {ke : TK} {pg qg : TP} {sc : Nat → Int32} {T : Nat → Nat} {m p : Nat}
theorem flt30 {K : Nat → Int32 → Int32 → Option Int32} {R : Option Int32} {e : Nat} (h : FX G a ro st hi ke pg qg sc) (hT : ∀ i, i < 80 → a.1 i = nn (T i) ∧ T i ≤ 255) (hm : m ≤ 80) (he : e ≤ lenA (T p)) (hc : T p < 256) (hg : ∀ j, 1 ≤ j → j < e → p + j < m ∧ ms (T p) j (T (p + j)) = 1) (hR : ∀ fu, fX6_faultOfDay_b30 G K (fu + 1) 0 (nn m) (nn p) (nn (T p)) (nn (lenA (T p))) (nn e) = R) : ∀ fu k, 1 ≤ k → k ≤ e → e - k < fu → fX6_faultOfDay_b30 G K fu 0 (nn m) (nn p) (nn (T p)) (nn (lenA (T p))) (nn k) = R := by
  have hll := lenA_le (T p) hc
  intro fu
  induction fu with
  | zero => intro k _ _ h; omega
  | succ fu ih =>
    intro k h1 h2 h3
    by_cases e1 : k = e
    · rw [e1]
      exact hR fu
    · obtain ⟨g1, g2⟩ := hg k h1 (by omega)
      obtain ⟨t1, t2⟩ := hT (p + k) (by omega)
      unfold fX6_faultOfDay_b30
      rw [if_le (by omega) (by omega), if_neg (by omega), nn_add, if_lt (by omega) (by omega), if_pos g1, h.r0_0, ob1_some, aR_at h.g1 (by omega) (by omega), ob1_some, t1, ms6 hc (by omega) (by omega), ob1_some, g2, if_neg (by decide), q1, nn_add, zlt]
      exact ih (k + 1) (by omega) (by omega) (by omega)
theorem flt_ok (h : FX G a ro st hi ke pg qg sc) (hT : ∀ i, i < 80 → a.1 i = nn (T i) ∧ T i ≤ 255) (hm : m ≤ 80) (hp : p < m) (hv : vA T m p) (fu : Nat) : fX6_faultOfDay_b2 G (fu + 1) 0 (nn m) (nn p) = fX6_faultOfDay_b2 G fu 0 (nn m) (nn (p + lenA (T p))) := by
  obtain ⟨t1, t2⟩ := hT p (by omega)
  obtain ⟨v1, v2, v3⟩ := hv
  have hll := lenA_le (T p) (by omega)
  have := flt30 (K := fX6_faultOfDay_b2 G fu) (e := lenA (T p)) (R := fX6_faultOfDay_b2 G fu 0 (nn m) (nn (p + lenA (T p)))) h hT hm (Nat.le_refl _) (by omega) (fun j h1 h2 => ⟨by omega, v3 j h1 h2⟩) (fun fu' => by
    unfold fX6_faultOfDay_b30
    rw [if_le (by omega) (by omega), if_pos (Nat.le_refl _)]
    unfold fX6_faultOfDay_b76
    rw [nn_add, zlt]) FU 1 (Nat.le_refl _) (by omega) (by rw [FU_eq]; omega)
  rw [fX6_faultOfDay_b2, if_le (by omega) (by omega), if_neg (by omega), h.r0_0, ob1_some, aR_at h.g1 (by omega) (by omega), ob1_some, t1, lenA6 _ (by omega), ob1_some, if_neg (by rw [q0, nn_eq (by omega) (by omega)]; exact v1)]
  exact this
theorem flt_no {F : Nat} (h : FX G a ro st hi ke pg qg sc) (hT : ∀ i, i < 80 → a.1 i = nn (T i) ∧ T i ≤ 255) (hm : m ≤ 80) (hp : p < m) (hn : nA T m p F) (fu : Nat) : fX6_faultOfDay_b2 G (fu + 1) 0 (nn m) (nn p) = some (nn F) := by
  obtain ⟨t1, t2⟩ := hT p (by omega)
  have hll := lenA_le (T p) (by omega)
  rw [fX6_faultOfDay_b2, if_le (by omega) (by omega), if_neg (by omega), h.r0_0, ob1_some, aR_at h.g1 (by omega) (by omega), ob1_some, t1, lenA6 _ (by omega), ob1_some, q0, if_eq (by omega) (by omega)]
  rcases hn with ⟨n1, n2⟩ | ⟨n1, k, n2, n3, n4, n5, n6⟩
  · rw [if_pos n1, n2]
  · have hkm : p + k ≤ m := by
      by_cases e1 : k = 1
      · omega
      · have := (n5 (k - 1) (by omega) (by omega)).1
        omega
    rw [if_neg n1]
    refine flt30 (K := fX6_faultOfDay_b2 G fu) (e := k) (R := some (nn F)) h hT hm (by omega) (by omega) n5 (fun fu' => ?_) FU 1 (Nat.le_refl _) n2 (by rw [FU_eq]; omega)
    unfold fX6_faultOfDay_b30
    rw [if_le (by omega) (by omega), if_neg (by omega), nn_add, if_lt (by omega) (by omega)]
    by_cases e2 : p + k < m
    · obtain ⟨t3, t4⟩ := hT (p + k) (by omega)
      have n7 : ms (T p) k (T (p + k)) = 0 := by omega
      rw [if_pos e2, h.r0_0, ob1_some, aR_at h.g1 (by omega) (by omega), ob1_some, t3, ms6 (by omega) (by omega) (by omega), ob1_some, n7, if_pos z0, n4]
    · rw [if_neg e2, n4, show p + k = m by omega]
end Flt
/-! numbers and letters -/
def num (T : Nat → Nat) (p : Nat) : Nat → Nat
  | 0 => 0
  | d + 1 => 10 * num T p d + T (p + d) - 48
def lt' (v : Nat) : Nat := if v = 47 then 10 else v
theorem num6 {G : zH} {a : TA} {ro : TR} {st : TS} {hi : TH} {ke : TK} {pg qg : TP} {sc : Nat → Int32} {T : Nat → Nat} {p d : Nat} (h : FX G a ro st hi ke pg qg sc) (hT : ∀ i, i < 80 → a.1 i = nn (T i) ∧ T i ≤ 255) (hp : p + d ≤ 80) (hd : ∀ j, j < d → 48 ≤ T (p + j)) : fX6_numberAt G 0 (nn p) (nn d) = some (nn (num T p d)) := by
  have key : ∀ fu k, k ≤ d → d - k < fu → fX6_numberAt_b5 G fu 0 (nn p) (nn d) (nn (num T p k)) (nn (p + k)) = some (nn (num T p d)) := by
    intro fu
    induction fu with
    | zero => intro k _ h; omega
    | succ fu ih =>
      intro k hk hfu
      unfold fX6_numberAt_b5
      rw [nn_add, if_le (by omega) (by omega)]
      by_cases e : p + d ≤ p + k
      · rw [if_pos e, show k = d by omega]
      · have hih := ih (k + 1) (by omega) (by omega)
        have h48 := hd k (by omega)
        have hnm : num T p (k + 1) = num T p k * 10 + T (p + k) - 48 := by
          show 10 * num T p k + T (p + k) - 48 = _
          rw [Nat.mul_comm]
        rw [if_neg e, h.r0_0, ob1_some, aL_at h.g1, ob1_some, if_le (by omega) (by omega), if_neg (by omega), ob1_some, aR_at h.g1 (by omega) (by omega), ob1_some, (hT (p + k) (by omega)).1, q10, q48, nn_mul, nn_add, nn_sub (by omega), ← hnm, zlt, q1, nn_add, zlt]
        exact hih
  unfold fX6_numberAt
  rw [q0]
  exact key FU 0 (by omega) (by rw [FU_eq]; omega)
def F30 (M M1 : MS) : Prop := (∀ j, j ≠ 30 → M1.1 j = M.1 j) ∧ M1.2 = M.2
theorem F30.refl (M : MS) : F30 M M := ⟨fun _ _ => rfl, rfl⟩
theorem F30.step {M M1 : MS} (h : F30 M M1) (x : Int32) : F30 M (mI M1 30 x) := ⟨fun j hj => (upd_ne _ _ hj).trans (h.1 j hj), h.2⟩
section Dig
variable {M : MS} {T : Nat → Nat} {m p d : Nat}
theorem dig_run {e : Nat} {Q : Int32 × MS → Prop} (h5 : M.1 5 = nn m) (hT : ∀ i, i < 80 → M.2.1 3 i = nn (T i) ∧ T i ≤ 255) (hm : m ≤ 80) (h30 : M.1 30 = nn p) (he : e ≤ d) (hd : d ≤ 10) (hg : ∀ j, j < e → p + j < m ∧ 48 ≤ T (p + j) ∧ T (p + j) ≤ 57) (hQ : ∀ fu M', F30 M M' → M'.1 30 = nn (p + e) → ok (fX7_digits_b4 (fu + 1) M' (nn d) (nn (num T p e)) (nn e)) Q) : ok (fX7_digits M (nn d)) Q := by
  have key : ∀ fu k M', k ≤ e → e - k < fu → F30 M M' → M'.1 30 = nn (p + k) → ok (fX7_digits_b4 fu M' (nn d) (nn (num T p k)) (nn k)) Q := by
    intro fu
    induction fu with
    | zero => intro k M' _ h; omega
    | succ fu ih =>
      intro k M' hk hfu hF h30'
      by_cases e1 : k = e
      · rw [e1] at h30' ⊢
        exact hQ fu M' hF h30'
      · obtain ⟨g1, g2, g3⟩ := hg k (by omega)
        have h5' : M'.1 5 = nn m := (hF.1 5 (by decide)).trans h5
        have ht : M'.2.1 3 (p + k) = nn (T (p + k)) := by rw [hF.2]; exact (hT (p + k) (by omega)).1
        have hnm : num T p (k + 1) = 10 * num T p k + T (p + k) - 48 := rfl
        unfold fX7_digits_b4
        rw [if_le (by omega) (by omega), if_neg (by omega), h5', h30', if_le (by omega) (by omega), if_neg (by omega), rd_nn (show p + k < 80 by omega) (by omega), ob1_some, ht, in_lit (lo := 48) (hi := 57) (by omega) rfl rfl, ob1_some, if_neg (by rw [if_pos ⟨g2, g3⟩]; decide), ob1_some, q10, q48, nn_mul, nn_add, nn_sub (by omega), ← hnm, zlt, q1, nn_add, zlt, nn_add, zlt]
        exact ih (k + 1) _ (by omega) (by omega) (hF.step _) rfl
  unfold fX7_digits
  rw [q0]
  exact key FU 0 M (by omega) (by rw [FU_eq]; omega) (F30.refl _) h30
theorem dig_ok (h5 : M.1 5 = nn m) (hT : ∀ i, i < 80 → M.2.1 3 i = nn (T i) ∧ T i ≤ 255) (hm : m ≤ 80) (h30 : M.1 30 = nn p) (hd : d ≤ 10) (hg : ∀ j, j < d → p + j < m ∧ 48 ≤ T (p + j) ∧ T (p + j) ≤ 57) : ∃ M1, fX7_digits M (nn d) = some (nn (num T p d), M1) ∧ F30 M M1 ∧ M1.1 30 = nn (p + d) := by
  obtain ⟨⟨v, M1⟩, e1, e2, e3, e4⟩ := dig_run (e := d) (Q := fun z => z.1 = nn (num T p d) ∧ F30 M z.2 ∧ z.2.1 30 = nn (p + d)) h5 hT hm h30 (Nat.le_refl _) hd hg (fun fu M' hF h => by
    unfold fX7_digits_b4
    rw [if_le (by omega) (by omega), if_pos (Nat.le_refl _)]
    exact ok_some ⟨rfl, hF, h⟩)
  change v = _ at e2
  subst e2
  exact ⟨M1, e1, e3, e4⟩
theorem dig_no {e : Nat} (h5 : M.1 5 = nn m) (hT : ∀ i, i < 80 → M.2.1 3 i = nn (T i) ∧ T i ≤ 255) (hm : m ≤ 80) (h30 : M.1 30 = nn p) (he : e < d) (hd : d ≤ 10) (hg : ∀ j, j < e → p + j < m ∧ 48 ≤ T (p + j) ∧ T (p + j) ≤ 57) (hp : p + e ≤ 80) (hb : m ≤ p + e ∨ ¬ (48 ≤ T (p + e) ∧ T (p + e) ≤ 57)) : ∃ M1, fX7_digits M (nn d) = some (-1, M1) ∧ F30 M M1 ∧ M1.1 30 = nn (p + e) := by
  obtain ⟨⟨v, M1⟩, e1, e2, e3, e4⟩ := dig_run (e := e) (Q := fun z => z.1 = -1 ∧ F30 M z.2 ∧ z.2.1 30 = nn (p + e)) h5 hT hm h30 (by omega) hd hg (fun fu M' hF h => by
    have h5' : M'.1 5 = nn m := (hF.1 5 (by decide)).trans h5
    unfold fX7_digits_b4
    rw [if_le (by omega) (by omega), if_neg (by omega), h5', h, if_le (by omega) (by omega)]
    by_cases e1 : m ≤ p + e
    · rw [if_pos e1]
      exact ok_some ⟨rfl, hF, h⟩
    · have ht : M'.2.1 3 (p + e) = nn (T (p + e)) := by rw [hF.2]; exact (hT (p + e) (by omega)).1
      have hle := (hT (p + e) (by omega)).2
      rw [if_neg e1, rd_nn (show p + e < 80 by omega) (by omega), ob1_some, ht, in_lit (lo := 48) (hi := 57) (by omega) rfl rfl, ob1_some, if_pos (by rw [if_neg (by omega)]; rfl)]
      exact ok_some ⟨rfl, hF, h⟩)
  change v = _ at e2
  subst e2
  exact ⟨M1, e1, e3, e4⟩
theorem let_ok (h5 : M.1 5 = nn m) (hT : ∀ i, i < 80 → M.2.1 3 i = nn (T i) ∧ T i ≤ 255) (hm : m ≤ 80) (h30 : M.1 30 = nn p) (hp : p < m) (hg : (97 ≤ T p ∧ T p ≤ 122) ∨ T p = 47) : ∃ M1, fX7_letter M = some (nn (lt' (T p)), M1) ∧ F30 M M1 ∧ M1.1 30 = nn (p + 1) := by
  obtain ⟨t1, t2⟩ := hT p (by omega)
  have b49 : fX7_letter_b49 M = some (nn (lt' (T p)), mI M 30 (nn (p + 1))) := by
    unfold fX7_letter_b49
    rw [h30, q1, nn_add, zlt]
    have h31 : (mI M 30 (nn (p + 1))).1 30 = nn (p + 1) := rfl
    have h33 : (mI M 30 (nn (p + 1))).2.1 3 p = nn (T p) := t1
    rw [h31, nn_sub (by omega), Nat.add_sub_cancel, rd_nn (show p < 80 by omega) (by omega), ob1_some, h33, q47, if_eq (by omega) (by omega)]
    unfold lt'
    by_cases e : T p = 47
    · rw [if_pos e, if_pos e]
      rfl
    · rw [if_neg e, if_neg e, ob1_some]
  refine ⟨_, ?_, (F30.refl M).step _, rfl⟩
  unfold fX7_letter
  rw [h5, h30, if_le (by omega) (by omega), if_neg (by omega), rd_nn (show p < 80 by omega) (by omega), ob1_some, t1, q47, if_eq (by omega) (by omega)]
  by_cases e : T p = 47
  · rw [if_pos e]
    exact b49
  · rw [if_neg e, ob1_some, in_lit (lo := 97) (hi := 122) (by omega) rfl rfl, ob1_some, if_neg (by rw [if_pos (by omega)]; decide)]
    exact b49
theorem let_no (h5 : M.1 5 = nn m) (hT : ∀ i, i < 80 → M.2.1 3 i = nn (T i) ∧ T i ≤ 255) (hm : m ≤ 80) (h30 : M.1 30 = nn p) (hp : p ≤ 80) (hb : m ≤ p ∨ ¬ ((97 ≤ T p ∧ T p ≤ 122) ∨ T p = 47)) : fX7_letter M = some (-1, M) := by
  unfold fX7_letter
  rw [h5, h30, if_le (by omega) (by omega)]
  by_cases e : m ≤ p
  · rw [if_pos e]
  · obtain ⟨t1, t2⟩ := hT p (by omega)
    rw [if_neg e, rd_nn (show p < 80 by omega) (by omega), ob1_some, t1, q47, if_eq (by omega) (by omega), if_neg (by omega), ob1_some, in_lit (lo := 97) (hi := 122) (by omega) rfl rfl, ob1_some, if_pos (by rw [if_neg (by omega)]; rfl)]
end Dig
