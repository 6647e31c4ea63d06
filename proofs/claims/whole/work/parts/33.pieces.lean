/-! pieces: a list of (source, length); what stands at a place, of which piece it is, whether a piece begins there -/
abbrev PC : Type := List (Nat × Nat)
def sz : PC → Nat
  | [] => 0
  | q :: t => q.2 + sz t
def srcAt : PC → Nat → Nat
  | [], _ => 0
  | q :: t, p => if p < q.2 then q.1 + p else srcAt t (p - q.2)
def pcAt : PC → Nat → Nat
  | [], _ => 0
  | q :: t, p => if p < q.2 then 0 else pcAt t (p - q.2) + 1
def bgAt : PC → Nat → Nat
  | [], _ => 0
  | q :: t, p => if p < q.2 then (if p = 0 then 1 else 0) else bgAt t (p - q.2)
def wfP (P : PC) : Prop := ∀ q ∈ P, 1 ≤ q.2
def cutL : PC → Nat → PC
  | [], _ => []
  | q :: t, p => if p = 0 then [] else if p < q.2 then [(q.1, p)] else q :: cutL t (p - q.2)
def cutR : PC → Nat → PC
  | [], _ => []
  | q :: t, p => if p = 0 then q :: t else if p < q.2 then (q.1 + p, q.2 - p) :: t else cutR t (p - q.2)
theorem sz_nil : sz [] = 0 := rfl
theorem sz_cons (q : Nat × Nat) (t : PC) : sz (q :: t) = q.2 + sz t := by rw [sz]
theorem sz_app (A B : PC) : sz (A ++ B) = sz A + sz B := by
  induction A with
  | nil => simp [sz]
  | cons q t ih => simp [sz, ih]; omega
theorem wfP_nil : wfP [] := fun _ h => (nomatch h)
theorem wfP_cons {q : Nat × Nat} {t : PC} : wfP (q :: t) ↔ 1 ≤ q.2 ∧ wfP t := by
  unfold wfP
  simp
theorem wfP_app {A B : PC} : wfP (A ++ B) ↔ wfP A ∧ wfP B := by
  unfold wfP
  constructor
  · intro h
    exact ⟨fun q hq => h q (List.mem_append_left _ hq), fun q hq => h q (List.mem_append_right _ hq)⟩
  · intro h q hq
    rcases List.mem_append.mp hq with h1 | h1
    · exact h.1 q h1
    · exact h.2 q h1
theorem len_le_sz {P : PC} (h : wfP P) : P.length ≤ sz P := by
  induction P with
  | nil => simp [sz]
  | cons q t ih =>
    have h1 := wfP_cons.mp h
    have h2 := ih h1.2
    simp [sz]
    omega
theorem sz_take_le (P : PC) (k : Nat) : sz (P.take k) ≤ sz P := by
  induction P generalizing k with
  | nil => simp [sz]
  | cons q t ih =>
    cases k with
    | zero => simp [sz]
    | succ k =>
      have := ih k
      simp [sz]
      omega
theorem sz_take_succ {P : PC} {k : Nat} (h : k < P.length) : sz (P.take (k + 1)) = sz (P.take k) + (P[k]).2 := by
  induction P generalizing k with
  | nil => simp at h
  | cons q t ih =>
    cases k with
    | zero => simp [sz]
    | succ k =>
      have h1 : k < t.length := by simpa using h
      have := ih h1
      simp [sz, this]
      omega
theorem srcAt_app (A B : PC) (p : Nat) : srcAt (A ++ B) p = if p < sz A then srcAt A p else srcAt B (p - sz A) := by
  induction A generalizing p with
  | nil => simp [sz]
  | cons q t ih =>
    simp only [List.cons_append, srcAt, sz_cons]
    by_cases h1 : p < q.2
    · rw [if_pos h1, if_pos h1, if_pos (by omega)]
    · rw [if_neg h1, if_neg h1, ih]
      by_cases h2 : p - q.2 < sz t
      · rw [if_pos h2, if_pos (by omega)]
      · rw [if_neg h2, if_neg (by omega), Nat.sub_sub]
theorem bgAt_app (A B : PC) (p : Nat) : bgAt (A ++ B) p = if p < sz A then bgAt A p else bgAt B (p - sz A) := by
  induction A generalizing p with
  | nil => simp [sz]
  | cons q t ih =>
    simp only [List.cons_append, bgAt, sz_cons]
    by_cases h1 : p < q.2
    · rw [if_pos h1, if_pos h1, if_pos (show p < q.2 + sz t by omega)]
    · rw [if_neg h1, if_neg h1, ih]
      by_cases h2 : p - q.2 < sz t
      · rw [if_pos h2, if_pos (by omega)]
      · rw [if_neg h2, if_neg (by omega), Nat.sub_sub]
theorem pcAt_app (A B : PC) (p : Nat) : pcAt (A ++ B) p = if p < sz A then pcAt A p else A.length + pcAt B (p - sz A) := by
  induction A generalizing p with
  | nil => simp [sz]
  | cons q t ih =>
    simp only [List.cons_append, pcAt, sz_cons, List.length_cons]
    by_cases h1 : p < q.2
    · rw [if_pos h1, if_pos h1, if_pos (by omega)]
    · rw [if_neg h1, if_neg h1, ih]
      by_cases h2 : p - q.2 < sz t
      · rw [if_pos h2, if_pos (by omega)]
      · rw [if_neg h2, if_neg (by omega), Nat.sub_sub]
        omega
theorem pcAt_lt {P : PC} {p : Nat} (h : p < sz P) : pcAt P p < P.length := by
  induction P generalizing p with
  | nil => simp [sz] at h
  | cons q t ih =>
    simp only [pcAt, List.length_cons]
    rw [sz_cons] at h
    split
    · omega
    · have := ih (p := p - q.2) (by omega)
      omega
theorem bgAt_le (P : PC) (p : Nat) : bgAt P p ≤ 1 := by
  induction P generalizing p with
  | nil => simp [bgAt]
  | cons q t ih =>
    simp only [bgAt]
    split
    · split <;> omega
    · exact ih _
theorem sz_cutL {P : PC} {p : Nat} (h : p ≤ sz P) : sz (cutL P p) = p := by
  induction P generalizing p with
  | nil => simp [sz] at h; simp [cutL, sz, h]
  | cons q t ih =>
    rw [sz_cons] at h
    simp only [cutL]
    split
    · simp [sz]; omega
    · split
      · simp [sz]
      · rw [sz_cons, ih (by omega)]
        omega
theorem sz_cutR {P : PC} {p : Nat} (h : p ≤ sz P) : sz (cutR P p) = sz P - p := by
  induction P generalizing p with
  | nil => simp [cutR, sz]
  | cons q t ih =>
    rw [sz_cons] at h
    simp only [cutR]
    split
    · rw [sz_cons]; omega
    · split
      · rw [sz_cons, sz_cons]
        show q.2 - p + sz t = _
        omega
      · rw [ih (by omega), sz_cons]
        omega
theorem wf_cutL {P : PC} {p : Nat} (h : wfP P) : wfP (cutL P p) := by
  induction P generalizing p with
  | nil => exact h
  | cons q t ih =>
    have h1 := wfP_cons.mp h
    simp only [cutL]
    split
    · exact wfP_nil
    · split
      · exact wfP_cons.mpr ⟨by show 1 ≤ p; omega, wfP_nil⟩
      · exact wfP_cons.mpr ⟨h1.1, ih h1.2⟩
theorem wf_cutR {P : PC} {p : Nat} (h : wfP P) : wfP (cutR P p) := by
  induction P generalizing p with
  | nil => exact h
  | cons q t ih =>
    have h1 := wfP_cons.mp h
    simp only [cutR]
    split
    · exact h
    · split
      · exact wfP_cons.mpr ⟨by show 1 ≤ q.2 - p; omega, h1.2⟩
      · exact ih h1.2
theorem srcAt_cutL {P : PC} {p i : Nat} (h : p ≤ sz P) (hi : i < p) : srcAt (cutL P p) i = srcAt P i := by
  induction P generalizing p i with
  | nil => simp [sz] at h; omega
  | cons q t ih =>
    rw [sz_cons] at h
    simp only [cutL]
    rw [if_neg (by omega)]
    split
    · simp only [srcAt]
      rw [if_pos hi, if_pos (by omega)]
    · simp only [srcAt]
      split
      · rfl
      · exact ih (by omega) (by omega)
theorem bgAt_cutL {P : PC} {p i : Nat} (h : p ≤ sz P) (hi : i < p) : bgAt (cutL P p) i = bgAt P i := by
  induction P generalizing p i with
  | nil => simp [sz] at h; omega
  | cons q t ih =>
    rw [sz_cons] at h
    simp only [cutL]
    rw [if_neg (by omega)]
    split
    · simp only [bgAt]
      rw [if_pos hi, if_pos (show i < q.2 by omega)]
    · simp only [bgAt]
      split
      · rfl
      · exact ih (by omega) (by omega)
theorem srcAt_cutR {P : PC} {p i : Nat} (h : p + i < sz P) : srcAt (cutR P p) i = srcAt P (p + i) := by
  induction P generalizing p i with
  | nil => simp [sz] at h
  | cons q t ih =>
    rw [sz_cons] at h
    simp only [cutR]
    split
    · rename_i h0
      subst h0
      rw [Nat.zero_add]
    · split
      · simp only [srcAt]
        by_cases h2 : i < q.2 - p
        · rw [if_pos h2, if_pos (by omega)]
          omega
        · rw [if_neg h2, if_neg (by omega)]
          congr 1
          omega
      · rw [ih (by omega)]
        simp only [srcAt]
        rw [if_neg (by omega)]
        congr 1
        omega
theorem bgAt_cutR {P : PC} {p i : Nat} (hw : wfP P) (h : p + i < sz P) : bgAt (cutR P p) i = if i = 0 then 1 else bgAt P (p + i) := by
  induction P generalizing p i with
  | nil => simp [sz] at h
  | cons q t ih =>
    have hw1 := wfP_cons.mp hw
    rw [sz_cons] at h
    simp only [cutR]
    split
    · rename_i h0
      subst h0
      rw [Nat.zero_add]
      split
      · rename_i h1
        subst h1
        simp only [bgAt]
        rw [if_pos (by omega), if_pos trivial]
      · rfl
    · split
      · simp only [bgAt]
        by_cases h2 : i < q.2 - p
        · rw [if_pos h2, if_pos (show p + i < q.2 by omega)]
          by_cases h3 : i = 0
          · rw [if_pos h3, if_pos h3]
          · rw [if_neg h3, if_neg h3, if_neg (by omega)]
        · rw [if_neg h2, if_neg (show ¬ i = 0 by omega), if_neg (show ¬ p + i < q.2 by omega)]
          congr 1
          omega
      · rw [ih hw1.2 (by omega)]
        split
        · rfl
        · simp only [bgAt]
          rw [if_neg (show ¬ p + i < q.2 by omega)]
          congr 1
          omega
/-! the signs' sources are in the two stores -/
def okQ (on an : Nat) (q : Nat × Nat) : Prop := 1 ≤ q.2 ∧ (q.1 + q.2 ≤ on ∨ (1600 ≤ q.1 ∧ q.1 + q.2 ≤ 1600 + an))
def okP (on an : Nat) (P : PC) : Prop := ∀ q ∈ P, okQ on an q
theorem okP_nil {on an : Nat} : okP on an [] := fun _ h => (nomatch h)
theorem okP_cons {on an : Nat} {q : Nat × Nat} {t : PC} : okP on an (q :: t) ↔ okQ on an q ∧ okP on an t := by
  unfold okP
  simp
theorem okP_app {on an : Nat} {A B : PC} : okP on an (A ++ B) ↔ okP on an A ∧ okP on an B := by
  unfold okP
  constructor
  · intro h
    exact ⟨fun q hq => h q (List.mem_append_left _ hq), fun q hq => h q (List.mem_append_right _ hq)⟩
  · intro h q hq
    rcases List.mem_append.mp hq with h1 | h1
    · exact h.1 q h1
    · exact h.2 q h1
theorem okP_wf {on an : Nat} {P : PC} (h : okP on an P) : wfP P := fun q hq => (h q hq).1
theorem okP_mono {on an an' : Nat} {P : PC} (h : okP on an P) (hl : an ≤ an') : okP on an' P := by
  intro q hq
  have h1 := h q hq
  unfold okQ at *
  omega
theorem ok_cutL {on an : Nat} {P : PC} {p : Nat} (h : okP on an P) : okP on an (cutL P p) := by
  induction P generalizing p with
  | nil => exact h
  | cons q t ih =>
    have h1 := okP_cons.mp h
    simp only [cutL]
    split
    · exact okP_nil
    · split
      · refine okP_cons.mpr ⟨?_, okP_nil⟩
        have := h1.1
        unfold okQ at *
        show 1 ≤ p ∧ (q.1 + p ≤ on ∨ (1600 ≤ q.1 ∧ q.1 + p ≤ 1600 + an))
        omega
      · exact okP_cons.mpr ⟨h1.1, ih h1.2⟩
theorem ok_cutR {on an : Nat} {P : PC} {p : Nat} (h : okP on an P) : okP on an (cutR P p) := by
  induction P generalizing p with
  | nil => exact h
  | cons q t ih =>
    have h1 := okP_cons.mp h
    simp only [cutR]
    split
    · exact h
    · split
      · refine okP_cons.mpr ⟨?_, h1.2⟩
        have := h1.1
        unfold okQ at *
        show 1 ≤ q.2 - p ∧ (q.1 + p + (q.2 - p) ≤ on ∨ (1600 ≤ q.1 + p ∧ q.1 + p + (q.2 - p) ≤ 1600 + an))
        omega
      · exact ih h1.2
theorem okP_src {on an : Nat} {P : PC} {p : Nat} (h : okP on an P) (hp : p < sz P) : srcAt P p < on ∨ (1600 ≤ srcAt P p ∧ srcAt P p < 1600 + an) := by
  induction P generalizing p with
  | nil => simp [sz] at hp
  | cons q t ih =>
    have h1 := okP_cons.mp h
    rw [sz_cons] at hp
    simp only [srcAt]
    split
    · have := h1.1
      unfold okQ at this
      omega
    · exact ih h1.2 (by omega)
