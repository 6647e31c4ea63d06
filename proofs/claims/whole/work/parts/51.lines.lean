/-! searching up and down -/
theorem nn_dec1 {a : Nat} (h : 1 ≤ a) : nn a + -nn 1 = nn (a - 1) := nn_dec h
def fstF (b : Nat → Bool) : Nat → Nat → Nat
  | p, 0 => p
  | p, d + 1 => if b p = true then p else fstF b (p + 1) d
def lstF (b : Nat → Bool) : Nat → Nat
  | 0 => 0
  | p + 1 => if b p = true then p + 1 else lstF b p
theorem fstF_le (b : Nat → Bool) (p d : Nat) : p ≤ fstF b p d ∧ fstF b p d ≤ p + d := by
  induction d generalizing p with
  | zero => simp [fstF]
  | succ d ih =>
    have := ih (p + 1)
    simp only [fstF]
    split <;> omega
theorem fstF_no {b : Nat → Bool} {p d k : Nat} (h1 : p ≤ k) (h2 : k < fstF b p d) : b k = false := by
  induction d generalizing p with
  | zero => simp [fstF] at h2; omega
  | succ d ih =>
    simp only [fstF] at h2
    by_cases e : b p = true
    · rw [if_pos e] at h2
      omega
    · rw [if_neg e] at h2
      by_cases e2 : k = p
      · subst e2
        simpa using e
      · exact ih (by omega) h2
theorem fstF_at {b : Nat → Bool} {p d : Nat} (h : fstF b p d < p + d) : b (fstF b p d) = true := by
  induction d generalizing p with
  | zero => simp [fstF] at h
  | succ d ih =>
    simp only [fstF] at *
    by_cases e : b p = true
    · rw [if_pos e]
      exact e
    · rw [if_neg e] at h ⊢
      exact ih (by omega)
theorem fstF_eq {b : Nat → Bool} {p d m : Nat} (h1 : p ≤ m) (h2 : m ≤ p + d) (h3 : ∀ k, p ≤ k → k < m → b k = false) (h4 : m < p + d → b m = true) : fstF b p d = m := by
  induction d generalizing p with
  | zero => simp [fstF]; omega
  | succ d ih =>
    simp only [fstF]
    by_cases e : b p = true
    · rw [if_pos e]
      by_cases e2 : p = m
      · exact e2
      · have := h3 p (Nat.le_refl _) (by omega)
        rw [this] at e
        cases e
    · rw [if_neg e]
      have hne : p ≠ m := by
        intro e2
        subst e2
        exact e (h4 (by omega))
      exact ih (by omega) (by omega) (fun k k1 k2 => h3 k (by omega) k2) (fun hm => h4 (by omega))
theorem lstF_le (b : Nat → Bool) (p : Nat) : lstF b p ≤ p := by
  induction p with
  | zero => simp [lstF]
  | succ p ih =>
    simp only [lstF]
    split <;> omega
theorem lstF_no {b : Nat → Bool} {p k : Nat} (h1 : lstF b p ≤ k) (h2 : k < p) : b k = false := by
  induction p with
  | zero => omega
  | succ p ih =>
    simp only [lstF] at h1
    by_cases e : b p = true
    · rw [if_pos e] at h1
      omega
    · rw [if_neg e] at h1
      by_cases e2 : k = p
      · subst e2
        simpa using e
      · exact ih h1 (by omega)
theorem lstF_at {b : Nat → Bool} {p : Nat} : lstF b p = 0 ∨ b (lstF b p - 1) = true := by
  induction p with
  | zero => simp [lstF]
  | succ p ih =>
    simp only [lstF]
    by_cases e : b p = true
    · rw [if_pos e]
      right
      rw [Nat.add_sub_cancel]
      exact e
    · rw [if_neg e]
      exact ih
def isB (t : Nat → Nat) : Nat → Bool := fun k => decide (t k = 10)
theorem isB_t {t : Nat → Nat} {k : Nat} : (isB t k = true) = (t k = 10) := by
  unfold isB
  simp
theorem isB_f {t : Nat → Nat} {k : Nat} : (isB t k = false) = ¬ (t k = 10) := by
  unfold isB
  simp
/-- where a line begins -/
def lsF (t : Nat → Nat) : Nat → Nat → Nat → Option Nat
  | l, p, 0 => if l = 0 then some p else none
  | l, p, d + 1 => if l = 0 then some p else lsF t (if t p = 10 then l - 1 else l) (p + 1) d
theorem cntB_front (t : Nat → Nat) (lo k : Nat) : cntB t lo (k + 1) = (if t lo = 10 then 1 else 0) + cntB t (lo + 1) k := by
  induction k with
  | zero => simp [cntB]
  | succ k ih =>
    have h1 : cntB t lo (k + 1 + 1) = cntB t lo (k + 1) + if t (lo + (k + 1)) = 10 then 1 else 0 := rfl
    have h2 : cntB t (lo + 1) (k + 1) = cntB t (lo + 1) k + if t (lo + 1 + k) = 10 then 1 else 0 := rfl
    rw [h1, ih, h2, show lo + (k + 1) = lo + 1 + k by omega]
    omega
theorem lsF_some (t : Nat → Nat) (l p d : Nat) : (∃ m, lsF t l p d = some m) ↔ l ≤ cntB t p d := by
  induction d generalizing l p with
  | zero =>
    simp only [lsF, cntB]
    by_cases e : l = 0
    · simp [e]
    · simp [e]
  | succ d ih =>
    simp only [lsF]
    rw [cntB_front]
    by_cases e : l = 0
    · simp [e]
    · rw [if_neg e, ih]
      by_cases e2 : t p = 10
      · rw [if_pos e2, if_pos e2]
        omega
      · rw [if_neg e2, if_neg e2]
        omega
theorem lsF_le {t : Nat → Nat} {l p d m : Nat} (h : lsF t l p d = some m) : p ≤ m ∧ m ≤ p + d := by
  induction d generalizing l p with
  | zero =>
    simp only [lsF] at h
    split at h
    · cases h
      omega
    · cases h
  | succ d ih =>
    simp only [lsF] at h
    split at h
    · cases h
      omega
    · have := ih h
      omega
theorem lsF_cnt {t : Nat → Nat} {p d j : Nat} (hj : j ≤ d) (hb : j = 0 ∨ t (p + j - 1) = 10) : lsF t (cntB t p j) p d = some (p + j) := by
  induction j generalizing p d with
  | zero =>
    cases d <;> simp [cntB, lsF]
  | succ j ih =>
    have hb' : t (p + j) = 10 := by
      rcases hb with h | h
      · omega
      · rw [show p + (j + 1) - 1 = p + j by omega] at h
        exact h
    have hc : cntB t p (j + 1) = cntB t p j + 1 := by
      show cntB t p j + (if t (p + j) = 10 then 1 else 0) = _
      rw [if_pos hb']
    cases d with
    | zero => omega
    | succ d =>
      simp only [lsF]
      rw [if_neg (by omega)]
      have hf := cntB_front t p j
      by_cases e : t p = 10
      · rw [if_pos e] at hf ⊢
        rw [show cntB t p (j + 1) - 1 = cntB t (p + 1) j by omega, ih (by omega) (by
          by_cases e2 : j = 0
          · exact Or.inl e2
          · right
            rw [show p + 1 + j - 1 = p + j by omega]
            exact hb')]
        congr 1
        omega
      · rw [if_neg e] at hf ⊢
        rw [show cntB t p (j + 1) = cntB t (p + 1) j by omega, ih (by omega) (by
          by_cases e2 : j = 0
          · subst e2
            exact absurd hb' e
          · right
            rw [show p + 1 + j - 1 = p + j by omega]
            exact hb')]
        congr 1
        omega
theorem cntB_lst (t : Nat → Nat) (p : Nat) : cntB t 0 p = cntB t 0 (lstF (isB t) p) := by
  induction p with
  | zero => rfl
  | succ p ih =>
    simp only [lstF]
    by_cases e : isB t p = true
    · rw [if_pos e]
    · rw [if_neg e, ← ih]
      show cntB t 0 p + (if t (0 + p) = 10 then 1 else 0) = _
      rw [isB_t] at e
      rw [Nat.zero_add, if_neg e, Nat.add_zero]
theorem lsF_line {t : Nat → Nat} {n p : Nat} (hp : p ≤ n) : lsF t (cntB t 0 p) 0 n = some (lstF (isB t) p) := by
  rw [cntB_lst]
  have h1 := lstF_le (isB t) p
  have h2 := lstF_at (b := isB t) (p := p)
  rw [lsF_cnt (by omega) (by rw [Nat.zero_add, ← isB_t (t := t)]; exact h2), Nat.zero_add]
theorem cntB_mono (t : Nat → Nat) (lo : Nat) {j k : Nat} (h : j ≤ k) : cntB t lo j ≤ cntB t lo k := by
  induction k with
  | zero => have : j = 0 := by omega
            subst this; exact Nat.le_refl _
  | succ k ih =>
    by_cases e : j = k + 1
    · subst e
      exact Nat.le_refl _
    · have := ih (by omega)
      simp only [cntB]
      omega
/-! the class -/
section LinesC
variable {G : zH} {n : Nat} {t w : Nat → Nat}
theorem lineEnd6 (h : PV G n t w) {p : Nat} (hp : p ≤ 6000) : fX3_lineEnd G 20 (nn p) = some (nn (fstF (isB t) p (n - p))) := by
  obtain ⟨v1, v2, v3, v4, v5, v6, v7⟩ := h
  unfold fX3_lineEnd
  have key : ∀ fu p, p ≤ 6000 → 6000 + n - p < fu → fX3_lineEnd_b2 G fu 20 (nn p) = some (nn (fstF (isB t) p (n - p))) := by
    intro fu
    induction fu with
    | zero => intro p _ h; omega
    | succ fu ih =>
      intro p hp hfu
      unfold fX3_lineEnd_b2
      rw [v2, ob1_some, if_le (by omega) (by omega)]
      by_cases e : n ≤ p
      · rw [if_pos e, show n - p = 0 by omega]
        rfl
      · have := v7 p (by omega)
        rw [if_neg e, v1, ob1_some, v3 p (by omega), ob1_some, q10, if_eq (by omega) (by omega), show n - p = (n - (p + 1)) + 1 by omega]
        simp only [fstF]
        by_cases e2 : t p = 10
        · rw [if_pos e2, if_pos (by rw [isB_t]; exact e2)]
        · rw [if_neg e2, if_neg (by rw [isB_t]; exact e2), q1, nn_add]
          exact ih (p + 1) (by omega) (by omega)
  exact key FU p hp (by rw [FU_eq]; omega)
theorem lineBegin6 (h : PV G n t w) {p : Nat} (hp : p ≤ n) : fX3_lineBegin G 20 (nn p) = some (nn (lstF (isB t) p)) := by
  obtain ⟨v1, v2, v3, v4, v5, v6, v7⟩ := h
  unfold fX3_lineBegin
  rw [if_neg (show ¬ nn p < 0 by rw [nn_neg (by omega)]; exact id)]
  have key : ∀ fu p, p ≤ n → p < fu → fX3_lineBegin_b6 G fu 20 (nn p) = some (nn (lstF (isB t) p)) := by
    intro fu
    induction fu with
    | zero => intro p _ h; omega
    | succ fu ih =>
      intro p hp hfu
      unfold fX3_lineBegin_b6
      rw [q0, if_le (by omega) (by omega)]
      by_cases e : p ≤ 0
      · rw [if_pos e, show p = 0 by omega]
        rfl
      · obtain ⟨j, rfl⟩ : ∃ j, p = j + 1 := ⟨p - 1, by omega⟩
        have := v7 j (by omega)
        rw [if_neg e, v1, ob1_some, q1, nn_sub (by omega), Nat.add_sub_cancel, v3 j (by omega), ob1_some, q10, if_eq (by omega) (by omega)]
        simp only [lstF]
        by_cases e2 : t j = 10
        · rw [if_pos e2, if_pos (by rw [isB_t]; exact e2)]
        · rw [if_neg e2, if_neg (by rw [isB_t]; exact e2), nn_dec1 (by omega), Nat.add_sub_cancel]
          exact ih j (by omega) (by omega)
  exact key FU p hp (by rw [FU_eq]; omega)
theorem breaksIn6 (h : PV G n t w) {lo m : Nat} (hm : lo + m ≤ n) : fX3_breaksIn G 20 (nn lo) (nn (lo + m)) = some (nn (cntB t lo m)) := by
  obtain ⟨v1, v2, v3, v4, v5, v6, v7⟩ := h
  unfold fX3_breaksIn
  rw [q0]
  have key : ∀ fu k, k ≤ m → m - k < fu → fX3_breaksIn_b5 G fu 20 (nn (lo + m)) (nn (cntB t lo k)) (nn (lo + k)) = some (nn (cntB t lo m)) := by
    intro fu
    induction fu with
    | zero => intro k _ h; omega
    | succ fu ih =>
      intro k hk hfu
      unfold fX3_breaksIn_b5
      rw [if_le (by omega) (by omega)]
      by_cases e : lo + m ≤ lo + k
      · rw [if_pos e, show k = m by omega]
      · have := v7 (lo + k) (by omega)
        rw [if_neg e, v2, ob1_some, if_neg (by rw [nn_le (by omega) (by omega)]; omega), v1, ob1_some, v3 (lo + k) (by omega), ob1_some, q10, if_eq (by omega) (by omega)]
        have hcs : cntB t lo (k + 1) = cntB t lo k + if t (lo + k) = 10 then 1 else 0 := rfl
        by_cases e2 : t (lo + k) = 10
        · rw [if_pos e2] at hcs ⊢
          rw [q1, nn_add]
          show fX3_breaksIn_b34 G (fX3_breaksIn_b5 G fu) 20 (nn (lo + m)) (nn (cntB t lo k + 1)) (nn (lo + k)) = _
          unfold fX3_breaksIn_b34
          rw [q1, nn_add, ← hcs]
          exact ih (k + 1) (by omega) (by omega)
        · rw [if_neg e2] at hcs ⊢
          unfold fX3_breaksIn_b34
          rw [q1, nn_add, show cntB t lo k = cntB t lo (k + 1) by omega]
          exact ih (k + 1) (by omega) (by omega)
  exact key FU 0 (by omega) (by rw [FU_eq]; omega)
def oN (x : Option Nat) : Int32 := match x with
  | some m => nn m
  | none => -1
theorem lineStart6 (h : PV G n t w) {l : Nat} (hl : l < 2147483648) : fX3_lineStart G 20 (nn l) = some (oN (lsF t l 0 n)) := by
  obtain ⟨v1, v2, v3, v4, v5, v6, v7⟩ := h
  unfold fX3_lineStart
  rw [q0]
  have key : ∀ fu l p, l < 2147483648 → p ≤ n → n - p < fu → fX3_lineStart_b4 G fu 20 (nn l) (nn p) = some (oN (lsF t l p (n - p))) := by
    intro fu
    induction fu with
    | zero => intro l p _ _ h; omega
    | succ fu ih =>
      intro l p hl hp hfu
      unfold fX3_lineStart_b4
      have b35 : n ≤ p ∨ l = 0 → fX3_lineStart_b35 G (nn l) (nn p) = some (oN (lsF t l p (n - p))) := by
        intro hc
        unfold fX3_lineStart_b35
        rw [q0, if_eq (by omega) (by omega)]
        by_cases e : l = 0
        · rw [if_pos e]
          cases n - p <;> simp [lsF, e, oN]
        · rw [if_neg e, show n - p = 0 by omega]
          simp [lsF, e, oN]
      rw [v2, ob1_some, if_le (by omega) (by omega)]
      by_cases e : n ≤ p
      · rw [if_pos e]
        exact b35 (Or.inl e)
      · rw [if_neg e, q0, if_le (by omega) (by omega)]
        by_cases e1 : l ≤ 0
        · rw [if_pos e1]
          exact b35 (Or.inr (by omega))
        · have := v7 p (by omega)
          rw [if_neg e1, v1, ob1_some, v3 p (by omega), ob1_some, q10, if_eq (by omega) (by omega), show n - p = (n - (p + 1)) + 1 by omega]
          simp only [lsF]
          rw [if_neg (show ¬ l = 0 by omega)]
          by_cases e2 : t p = 10
          · rw [if_pos e2, if_pos e2, nn_dec (by omega)]
            show fX3_lineStart_b29 G (fX3_lineStart_b4 G fu) 20 (nn (l - 1)) (nn p) = _
            unfold fX3_lineStart_b29
            rw [q1, nn_add]
            exact ih (l - 1) (p + 1) (by omega) (by omega) (by omega)
          · rw [if_neg e2, if_neg e2]
            unfold fX3_lineStart_b29
            rw [q1, nn_add]
            exact ih l (p + 1) hl (by omega) (by omega)
  exact key FU l 0 hl (by omega) (by rw [FU_eq]; omega)
theorem lineStart6_neg (h : PV G n t w) {x : Int32} (hx : x < 0) : fX3_lineStart G 20 x = some (-1) := by
  obtain ⟨v1, v2, v3, v4, v5, v6, v7⟩ := h
  have hne : ¬ x = 0 := by
    intro e
    rw [e] at hx
    exact absurd hx (by decide)
  have b35 : ∀ y, fX3_lineStart_b35 G x y = some (-1) := by
    intro y
    unfold fX3_lineStart_b35
    rw [if_neg hne]
  unfold fX3_lineStart
  rw [show FU = 19999 + 1 from rfl]
  unfold fX3_lineStart_b4
  rw [v2, ob1_some, b35]
  have hle : x ≤ 0 := by
    rw [Int32.lt_iff_toInt_lt] at hx
    rw [Int32.le_iff_toInt_le]
    omega
  by_cases e : nn n ≤ 0
  · rw [if_pos e]
  · rw [if_neg e, if_pos hle]
end LinesC
/-! the reference -/
section LinesR
variable {M : MS} {n : Nat} {t : Nat → Nat}
theorem endFrom7 (h : RV M n t) {p : Nat} (hp : p ≤ 6000) : fX7_endFrom M (nn p) = some (nn (fstF (isB t) p (n - p))) := by
  obtain ⟨v1, v3, v6, v7⟩ := h
  unfold fX7_endFrom
  have key : ∀ fu p, p ≤ 6000 → 6000 + n - p < fu → fX7_endFrom_b2 M fu (nn p) = some (nn (fstF (isB t) p (n - p))) := by
    intro fu
    induction fu with
    | zero => intro p _ h; omega
    | succ fu ih =>
      intro p hp hfu
      unfold fX7_endFrom_b2
      rw [v1, if_le (by omega) (by omega)]
      by_cases e : n ≤ p
      · rw [if_pos e, show n - p = 0 by omega]
        rfl
      · have := v7 p (by omega)
        rw [if_neg e, v3 p (by omega), ob1_some, q10, if_eq (by omega) (by omega), show n - p = (n - (p + 1)) + 1 by omega]
        simp only [fstF]
        by_cases e2 : t p = 10
        · rw [if_pos e2, if_pos (by rw [isB_t]; exact e2)]
        · rw [if_neg e2, if_neg (by rw [isB_t]; exact e2), q1, nn_add]
          exact ih (p + 1) (by omega) (by omega)
  exact key FU p hp (by rw [FU_eq]; omega)
theorem breaksAhead7 (h : RV M n t) {m : Nat} (hm : m ≤ n) : fX7_breaksAhead M (nn m) = some (nn (cntB t 0 m)) := by
  obtain ⟨v1, v3, v6, v7⟩ := h
  unfold fX7_breaksAhead
  rw [q0]
  have key : ∀ fu k, k ≤ m → m - k < fu → fX7_breaksAhead_b4 M fu (nn m) (nn (cntB t 0 k)) (nn k) = some (nn (cntB t 0 m)) := by
    intro fu
    induction fu with
    | zero => intro k _ h; omega
    | succ fu ih =>
      intro k hk hfu
      unfold fX7_breaksAhead_b4
      rw [if_le (by omega) (by omega)]
      by_cases e : m ≤ k
      · rw [if_pos e, show k = m by omega]
      · have := v7 k (by omega)
        rw [if_neg e, v3 k (by omega), ob1_some, q10, if_eq (by omega) (by omega)]
        have hcs : cntB t 0 (k + 1) = cntB t 0 k + if t (0 + k) = 10 then 1 else 0 := rfl
        rw [Nat.zero_add] at hcs
        unfold fX7_breaksAhead_b25
        by_cases e2 : t k = 10
        · rw [if_pos e2] at hcs ⊢
          rw [q1, flag_nn (by omega), ob1_some, nn_add, ← hcs]
          show fX7_breaksAhead_b4 M fu (nn m) (nn (cntB t 0 (k + 1))) (nn k + nn 1) = _
          rw [nn_add]
          exact ih (k + 1) (by omega) (by omega)
        · rw [if_neg e2] at hcs ⊢
          rw [q0, flag_nn (by omega), ob1_some, nn_add, ← hcs]
          show fX7_breaksAhead_b4 M fu (nn m) (nn (cntB t 0 (k + 1))) (nn k + 1) = _
          rw [q1, nn_add]
          exact ih (k + 1) (by omega) (by omega)
  exact key FU 0 (by omega) (by rw [FU_eq]; omega)
theorem lines7 (h : RV M n t) : fX7_lines M = some (nn (cntB t 0 n + 1)) := by
  unfold fX7_lines
  rw [h.1, breaksAhead7 h (Nat.le_refl _), ob1_some, q1, nn_add]
theorem startOf7 (h : RV M n t) {l m : Nat} (hl : l ≤ 3000) (he : lsF t l 0 n = some m) : fX7_startOf M (nn l) = some (nn m) := by
  obtain ⟨v1, v3, v6, v7⟩ := h
  unfold fX7_startOf
  rw [q0]
  have key : ∀ fu l p, l ≤ 3000 → p ≤ n → n - p < fu → lsF t l p (n - p) = some m → fX7_startOf_b4 M fu (nn p) (nn l) = some (nn m) := by
    intro fu
    induction fu with
    | zero => intro l p _ _ h; omega
    | succ fu ih =>
      intro l p hl hp hfu he
      unfold fX7_startOf_b4
      rw [q0, if_le (by omega) (by omega)]
      by_cases e : l ≤ 0
      · rw [if_pos e]
        have : l = 0 := by omega
        subst this
        cases hd : n - p with
        | zero => rw [hd] at he; simp [lsF] at he; rw [he]
        | succ d => rw [hd] at he; simp [lsF] at he; rw [he]
      · rw [if_neg e]
        by_cases ep : n ≤ p
        · rw [show n - p = 0 by omega] at he
          simp only [lsF] at he
          rw [if_neg (by omega)] at he
          cases he
        · have := v7 p (by omega)
          rw [v3 p (by omega), ob1_some, q10, if_eq (by omega) (by omega)]
          rw [show n - p = (n - (p + 1)) + 1 by omega] at he
          simp only [lsF] at he
          rw [if_neg (show ¬ l = 0 by omega)] at he
          unfold fX7_startOf_b24
          by_cases e2 : t p = 10
          · rw [if_pos e2] at he ⊢
            rw [q1, flag_nn (by omega), ob1_some, nn_sub (by omega)]
            show fX7_startOf_b4 M fu (nn p + nn 1) (nn (l - 1)) = _
            rw [nn_add]
            exact ih (l - 1) (p + 1) (by omega) (by omega) (by omega) he
          · rw [if_neg e2] at he ⊢
            rw [flag_nn (by omega), ob1_some, nn_sub (by omega)]
            show fX7_startOf_b4 M fu (nn p + 1) (nn (l - 0)) = _
            rw [q1, nn_add]
            exact ih l (p + 1) (by omega) (by omega) (by omega) he
  exact key FU l 0 hl (by omega) (by rw [FU_eq]; omega) he
end LinesR
