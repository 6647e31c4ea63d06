/-! what is alike -/
def lk (w v g : Nat) : Nat := if w = 1 ∧ v = 63 then (if g = 10 then 0 else 1) else if w = 1 ∧ v = 35 then (if 48 ≤ g ∧ g ≤ 57 then 1 else 0) else if w = 2 then (if sml v = sml g then 1 else 0) else if v = g then 1 else 0
theorem lk_le (w v g : Nat) : lk w v g ≤ 1 := by
  unfold lk
  repeat' split
  all_goals omega
theorem sml_le {v : Nat} (h : v ≤ 255) : sml v ≤ 300 := by
  unfold sml
  split <;> omega
theorem small6 {v : Nat} (h : v ≤ 255) : fX6_small (nn v) = some (nn (sml v)) := by
  unfold fX6_small sml
  rw [isCapital6 h, ob1_some]
  by_cases e : 65 ≤ v ∧ v ≤ 90
  · rw [if_pos e, if_pos e, if_neg (by decide), q97, q65, nn_sub (by omega), nn_add, show v - 65 + 97 = v + 32 by omega]
  · rw [if_neg e, if_neg e, if_pos n00]
theorem alike6 {w v g : Nat} (hw : w ≤ 2) (hv : v ≤ 255) (hg : 1 ≤ g ∧ g ≤ 127) : fX6_isAlike (nn v) (nn g) (nn w) = some (nn (lk w v g)) := by
  have hs : fX6_isSign (nn g) = some (nn 1) := by rw [isSign6_sp (by omega), if_pos hg]
  have h10 : ¬ nn 1 = (0 : Int32) := by decide
  have s1 := sml_le hv
  have s2 := sml_le (show g ≤ 255 by omega)
  unfold fX6_isAlike fX6_isAlike_b30 fX6_isAlike_b46 lk
  rw [small6 hv, small6 (show g ≤ 255 by omega), isDigit6 (show g ≤ 255 by omega), hs]
  simp only [ob1_some, if_neg h10]
  have hw3 : w = 0 ∨ w = 1 ∨ w = 2 := by omega
  rcases hw3 with rfl | rfl | rfl
  · rw [if_neg (show ¬ nn 0 = (1 : Int32) by decide), if_neg (show ¬ nn 0 = (1 : Int32) by decide), if_neg (show ¬ nn 0 = (2 : Int32) by decide), if_eq (by omega) (by omega), if_neg (show ¬ ((0 : Nat) = 1 ∧ v = 63) by omega), if_neg (show ¬ ((0 : Nat) = 1 ∧ v = 35) by omega), if_neg (show ¬ (0 : Nat) = 2 by omega)]
    by_cases e : v = g
    · rw [if_pos e, if_pos e]; rfl
    · rw [if_neg e, if_neg e]; rfl
  · rw [if_pos (show nn 1 = (1 : Int32) from rfl), if_pos (show nn 1 = (1 : Int32) from rfl), if_neg (show ¬ nn 1 = (2 : Int32) by decide), q63, q35, q10, if_eq (by omega) (by omega), if_eq (by omega) (by omega), if_eq (by omega) (by omega), if_eq (by omega) (by omega)]
    by_cases e1 : v = 63
    · rw [if_pos e1, if_pos (show (1 : Nat) = 1 ∧ v = 63 from ⟨rfl, e1⟩)]
      by_cases e : g = 10
      · rw [if_pos e, if_pos e]; rfl
      · rw [if_neg e, if_neg e]; rfl
    · rw [if_neg e1, if_neg (show ¬ ((1 : Nat) = 1 ∧ v = 63) by omega)]
      by_cases e2 : v = 35
      · rw [if_pos e2, if_pos (show (1 : Nat) = 1 ∧ v = 35 from ⟨rfl, e2⟩), bz_nn (by split <;> omega), ob1_some]
      · rw [if_neg e2, if_neg (show ¬ ((1 : Nat) = 1 ∧ v = 35) by omega), if_neg (show ¬ (1 : Nat) = 2 by omega)]
        by_cases e : v = g
        · rw [if_pos e, if_pos e]; rfl
        · rw [if_neg e, if_neg e]; rfl
  · rw [if_neg (show ¬ nn 2 = (1 : Int32) by decide), if_neg (show ¬ nn 2 = (1 : Int32) by decide), if_pos (show nn 2 = (2 : Int32) from rfl), if_eq (by omega) (by omega), if_neg (show ¬ ((2 : Nat) = 1 ∧ v = 63) by omega), if_neg (show ¬ ((2 : Nat) = 1 ∧ v = 35) by omega), if_pos (show (2 : Nat) = 2 from rfl)]
    by_cases e : sml v = sml g
    · rw [if_pos e, if_pos e]; rfl
    · rw [if_neg e, if_neg e]; rfl
theorem like7 {w v g : Nat} (hw : w ≤ 2) (hv : v ≤ 255) (hg : 1 ≤ g ∧ g ≤ 127) : fX7_isLike (nn g) (nn v) (nn w) = some (nn (lk w v g)) := by
  have s1 := sml_le hv
  have s2 := sml_le (show g ≤ 255 by omega)
  unfold fX7_isLike fX7_isLike_b23 fX7_isLike_b46 lk
  rw [small7 hv, small7 (show g ≤ 255 by omega), in_c (lo := 48) (hi := 57) (by omega) rfl rfl]
  simp only [ob1_some]
  have hw3 : w = 0 ∨ w = 1 ∨ w = 2 := by omega
  rcases hw3 with rfl | rfl | rfl
  · rw [if_neg (show ¬ nn 0 = (1 : Int32) by decide), if_neg (show ¬ nn 0 = (1 : Int32) by decide), if_neg (show ¬ nn 0 = (2 : Int32) by decide), if_eq (by omega) (by omega), if_neg (show ¬ ((0 : Nat) = 1 ∧ v = 63) by omega), if_neg (show ¬ ((0 : Nat) = 1 ∧ v = 35) by omega), if_neg (show ¬ (0 : Nat) = 2 by omega)]
    by_cases e : g = v
    · rw [if_pos e, if_pos e.symm]; rfl
    · rw [if_neg e, if_neg (fun x => e x.symm)]; rfl
  · rw [if_pos (show nn 1 = (1 : Int32) from rfl), if_pos (show nn 1 = (1 : Int32) from rfl), if_neg (show ¬ nn 1 = (2 : Int32) by decide), q63, q35, q10, if_eq (by omega) (by omega), if_eq (by omega) (by omega), if_eq (by omega) (by omega), if_eq (by omega) (by omega)]
    by_cases e1 : v = 63
    · rw [if_pos e1, if_pos (show (1 : Nat) = 1 ∧ v = 63 from ⟨rfl, e1⟩)]
      by_cases e : g = 10
      · rw [if_pos e, if_pos e]; rfl
      · rw [if_neg e, if_neg e]; rfl
    · rw [if_neg e1, if_neg (show ¬ ((1 : Nat) = 1 ∧ v = 63) by omega)]
      by_cases e2 : v = 35
      · rw [if_pos e2, if_pos (show (1 : Nat) = 1 ∧ v = 35 from ⟨rfl, e2⟩), bz_nn (by split <;> omega), ob1_some]
      · rw [if_neg e2, if_neg (show ¬ ((1 : Nat) = 1 ∧ v = 35) by omega), if_neg (show ¬ (1 : Nat) = 2 by omega)]
        by_cases e : g = v
        · rw [if_pos e, if_pos e.symm]; rfl
        · rw [if_neg e, if_neg (fun x => e x.symm)]; rfl
  · rw [if_neg (show ¬ nn 2 = (1 : Int32) by decide), if_neg (show ¬ nn 2 = (1 : Int32) by decide), if_pos (show nn 2 = (2 : Int32) from rfl), if_eq (by omega) (by omega), if_neg (show ¬ ((2 : Nat) = 1 ∧ v = 63) by omega), if_neg (show ¬ ((2 : Nat) = 1 ∧ v = 35) by omega), if_pos (show (2 : Nat) = 2 from rfl)]
    by_cases e : sml g = sml v
    · rw [if_pos e, if_pos e.symm]; rfl
    · rw [if_neg e, if_neg (fun x => e x.symm)]; rfl
def sdF (w : Nat) (T t : Nat → Nat) (p : Nat) : Nat → Nat
  | 0 => 1
  | j + 1 => if sdF w T t p j = 0 then 0 else lk w (T j) (t (p + j))
theorem sdF_le (w : Nat) (T t : Nat → Nat) (p j : Nat) : sdF w T t p j ≤ 1 := by
  induction j with
  | zero => exact Nat.le_refl _
  | succ j ih =>
    have := lk_le w (T j) (t (p + j))
    simp only [sdF]
    split <;> omega
theorem sdF_zero {w : Nat} {T t : Nat → Nat} {p j m : Nat} (h : sdF w T t p j = 0) (hm : j ≤ m) : sdF w T t p m = 0 := by
  induction m with
  | zero =>
    have : j = 0 := by omega
    subst this
    exact h
  | succ m ih =>
    by_cases e : j = m + 1
    · subst e; exact h
    · simp only [sdF]
      rw [if_pos (ih (by omega))]
section Stand
variable {G : zH} {a : TA} {ro : TR} {st : TS} {hi : TH} {ke : TK} {pg qg : TP} {sc : Nat → Int32} {T t wP : Nat → Nat} {n m p w : Nat} {M : MS} {P : PC}
theorem stands6 (h : FX G a ro st hi ke pg qg sc) (hT : ∀ i, i < 80 → a.1 i = nn (T i) ∧ T i ≤ 255) (hPV : PV G n t wP) (hw : w ≤ 2) (hm : m ≤ 80) (hp : p + m ≤ n) : fX6_standsAt G 0 (nn p) (nn m) (nn w) = some (nn (sdF w T t p m)) := by
  obtain ⟨v1, v2, v3, v4, v5, v6, v7⟩ := hPV
  unfold fX6_standsAt
  rw [q0]
  have key : ∀ fu j, j ≤ m → m - j < fu → sdF w T t p j = 1 → fX6_standsAt_b3 G fu 0 (nn p) (nn m) (nn w) (nn j) = some (nn (sdF w T t p m)) := by
    intro fu
    induction fu with
    | zero => intro j _ h; omega
    | succ fu ih =>
      intro j hj hfu hs
      unfold fX6_standsAt_b3
      rw [if_le (by omega) (by omega)]
      by_cases e : m ≤ j
      · rw [if_pos e, show m = j by omega, hs]
        rfl
      · have hTj := hT j (by omega)
        rw [if_neg e, h.r0_0, ob1_some, aL_at h.g1, ob1_some, if_le (by omega) (by omega), if_neg (show ¬ 80 ≤ j by omega), ob1_some, aR_at h.g1 (by omega) (by omega), ob1_some, h.r0_9, ob1_some, v1, ob1_some, nn_add, v3 _ (by omega), ob1_some, hTj.1, alike6 hw hTj.2 (v7 _ (by omega)), ob1_some]
        have h1 : sdF w T t p (j + 1) = lk w (T j) (t (p + j)) := by
          simp only [sdF]
          rw [if_neg (by omega)]
        have hl := lk_le w (T j) (t (p + j))
        by_cases e1 : lk w (T j) (t (p + j)) = 0
        · rw [e1] at h1
          rw [e1, if_pos n00, sdF_zero h1 (by omega)]
          rfl
        · rw [if_neg (by rw [q0, nn_eq (by omega) (by omega)]; exact e1), q1, nn_add, zlt]
          exact ih (j + 1) (by omega) (by omega) (by omega)
  exact key FU 0 (by omega) (by rw [FU_eq]; omega) rfl
theorem stands7 (h : RV M n t) (h5 : M.1 5 = nn m) (hT7 : ∀ i, i < 80 → M.2.1 3 i = nn (T i)) (hT : ∀ i, i < 80 → T i ≤ 255) (hw : w ≤ 2) (hm1 : 1 ≤ m) (hm : m ≤ 80) (hp : p ≤ n) : fX7_stands M (nn p) (nn w) = some (nn (if p + m ≤ n then sdF w T t p m else 0)) := by
  obtain ⟨v1, v3, v6, v7⟩ := h
  unfold fX7_stands fX7_stands_b18
  rw [v1, h5, nn_add, if_lt (by omega) (by omega)]
  by_cases e : p + m ≤ n
  · rw [if_neg (show ¬ n < p + m by omega), if_pos e, q0, q1]
    have key : ∀ fu j, j ≤ m → m - j < fu → fX7_stands_b22 M fu (nn p) (nn w) (nn (sdF w T t p j)) (nn j) = some (nn (sdF w T t p m)) := by
      intro fu
      induction fu with
      | zero => intro j _ h; omega
      | succ fu ih =>
        intro j hj hfu
        have hsl := sdF_le w T t p j
        unfold fX7_stands_b22
        rw [h5, if_le (by omega) (by omega)]
        by_cases e : m ≤ j
        · rw [if_pos e, bz_nn hsl, ob1_some, show m = j by omega]
        · rw [if_neg e, q0, if_eq (by omega) (by omega)]
          by_cases e1 : sdF w T t p j = 0
          · rw [if_pos e1, bz_nn hsl, ob1_some, e1, sdF_zero e1 hj]
          · have h1 : sdF w T t p (j + 1) = lk w (T j) (t (p + j)) := by
              simp only [sdF]
              rw [if_neg e1]
            rw [if_neg e1, nn_add, v3 _ (by omega), ob1_some, rd_nn (by omega) (by omega), ob1_some, hT7 j (by omega), like7 hw (hT j (by omega)) (v7 _ (by omega)), ob1_some, q1, nn_add, zlt, ← h1]
            exact ih (j + 1) (by omega) (by omega)
    exact key FU 0 (by omega) (by rw [FU_eq]; omega)
  · rw [if_pos (show n < p + m by omega), if_neg e, FU_eq]
    unfold fX7_stands_b22
    rw [q0, h5, if_le (by omega) (by omega), if_neg (show ¬ m ≤ 0 by omega), if_eq (by omega) (by omega), if_pos rfl, bz_nn (by omega), ob1_some]
def pcs (P : PC) (k m : Nat) : Nat := pcAt P (k + m - 1) - pcAt P k + 1
theorem piecesIn6 (hPV : PV G (sz P) t (pcAt P)) (hw : wfP P) (hm : 1 ≤ m) (hk : p + m ≤ sz P) : fX3_piecesIn G 20 (nn p) (nn m) = some (nn (pcs P p m)) := by
  obtain ⟨v1, v2, v3, v4, v5, v6, v7⟩ := hPV
  have hl := pcAt_le hw (show p ≤ p + m - 1 by omega) (by omega)
  have hl2 := pcAt_lt (P := P) (p := p + m - 1) (by omega)
  have hlen := len_le_sz hw
  unfold fX3_piecesIn
  rw [v1, ob1_some, nn_add, q1, nn_sub (by omega), v5 _ (by omega), ob1_some, ob1_some, v5 _ (by omega), ob1_some, nn_sub hl, nn_add]
  rfl
theorem found7 (h : RG (mI M 1 0) P) (h5 : M.1 5 = nn m) (hw : wfP P) (hm : 1 ≤ m) (hk : p + m ≤ sz P) : fX7_found M (nn p) = some (nn p, tl1 M (nn (pcs P p m)).toInt64) := by
  have hz := h.2.1
  have hl := pcAt_le hw (show p ≤ p + m - 1 by omega) (by omega)
  unfold fX7_found
  have h5' : (mI M 1 0).1 5 = nn m := h5
  rw [zlt, h5', nn_add, q1, nn_sub (by omega), beginningsTo7 h hw (by omega), ob1_some, beginningsTo7 h hw (by omega), ob1_some, nn_sub (by omega), nn_add, show pcAt P (p + m - 1) + 1 - (pcAt P p + 1) + 1 = pcs P p m by unfold pcs; omega, tl1_sp, ob1_some]
end Stand
