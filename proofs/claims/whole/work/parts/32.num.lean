/-! numbers: nn k is the int of a natural number -/
def nn (k : Nat) : Int32 := Int32.ofNat k
theorem q0 : (0 : Int32) = nn 0 := rfl
theorem q1 : (1 : Int32) = nn 1 := rfl
theorem q2 : (2 : Int32) = nn 2 := rfl
theorem q3 : (3 : Int32) = nn 3 := rfl
theorem q4 : (4 : Int32) = nn 4 := rfl
theorem q5 : (5 : Int32) = nn 5 := rfl
theorem q6 : (6 : Int32) = nn 6 := rfl
theorem q7 : (7 : Int32) = nn 7 := rfl
theorem q8 : (8 : Int32) = nn 8 := rfl
theorem q10 : (10 : Int32) = nn 10 := rfl
theorem q11 : (11 : Int32) = nn 11 := rfl
theorem q12 : (12 : Int32) = nn 12 := rfl
theorem q16 : (16 : Int32) = nn 16 := rfl
theorem q20 : (20 : Int32) = nn 20 := rfl
theorem q24 : (24 : Int32) = nn 24 := rfl
theorem q26 : (26 : Int32) = nn 26 := rfl
theorem q30 : (30 : Int32) = nn 30 := rfl
theorem q31 : (31 : Int32) = nn 31 := rfl
theorem q32 : (32 : Int32) = nn 32 := rfl
theorem q35 : (35 : Int32) = nn 35 := rfl
theorem q40 : (40 : Int32) = nn 40 := rfl
theorem q41 : (41 : Int32) = nn 41 := rfl
theorem q47 : (47 : Int32) = nn 47 := rfl
theorem q48 : (48 : Int32) = nn 48 := rfl
theorem q57 : (57 : Int32) = nn 57 := rfl
theorem q63 : (63 : Int32) = nn 63 := rfl
theorem q65 : (65 : Int32) = nn 65 := rfl
theorem q80 : (80 : Int32) = nn 80 := rfl
theorem q90 : (90 : Int32) = nn 90 := rfl
theorem q91 : (91 : Int32) = nn 91 := rfl
theorem q93 : (93 : Int32) = nn 93 := rfl
theorem q97 : (97 : Int32) = nn 97 := rfl
theorem q100 : (100 : Int32) = nn 100 := rfl
theorem q101 : (101 : Int32) = nn 101 := rfl
theorem q102 : (102 : Int32) = nn 102 := rfl
theorem q103 : (103 : Int32) = nn 103 := rfl
theorem q104 : (104 : Int32) = nn 104 := rfl
theorem q105 : (105 : Int32) = nn 105 := rfl
theorem q106 : (106 : Int32) = nn 106 := rfl
theorem q107 : (107 : Int32) = nn 107 := rfl
theorem q108 : (108 : Int32) = nn 108 := rfl
theorem q109 : (109 : Int32) = nn 109 := rfl
theorem q110 : (110 : Int32) = nn 110 := rfl
theorem q111 : (111 : Int32) = nn 111 := rfl
theorem q112 : (112 : Int32) = nn 112 := rfl
theorem q113 : (113 : Int32) = nn 113 := rfl
theorem q114 : (114 : Int32) = nn 114 := rfl
theorem q115 : (115 : Int32) = nn 115 := rfl
theorem q116 : (116 : Int32) = nn 116 := rfl
theorem q117 : (117 : Int32) = nn 117 := rfl
theorem q122 : (122 : Int32) = nn 122 := rfl
theorem q123 : (123 : Int32) = nn 123 := rfl
theorem q125 : (125 : Int32) = nn 125 := rfl
theorem q127 : (127 : Int32) = nn 127 := rfl
theorem q255 : (255 : Int32) = nn 255 := rfl
theorem q1600 : (1600 : Int32) = nn 1600 := rfl
theorem q3000 : (3000 : Int32) = nn 3000 := rfl
theorem q6000 : (6000 : Int32) = nn 6000 := rfl
theorem q8192 : (8192 : Int32) = nn 8192 := rfl
theorem q12345 : (12345 : Int32) = nn 12345 := rfl
theorem nn_toInt {a : Nat} (h : a < 2147483648) : (nn a).toInt = (a : Int) := by
  unfold nn
  rw [← Int32.ofInt_eq_ofNat]
  exact Int32.toInt_ofInt_of_le (by omega) (by omega)
theorem nn_lt {a b : Nat} (ha : a < 2147483648) (hb : b < 2147483648) : (nn a < nn b) = (a < b) := by
  rw [Int32.lt_iff_toInt_lt, nn_toInt ha, nn_toInt hb]
  exact propext ⟨fun h => by omega, fun h => by omega⟩
theorem nn_le {a b : Nat} (ha : a < 2147483648) (hb : b < 2147483648) : (nn a ≤ nn b) = (a ≤ b) := by
  rw [Int32.le_iff_toInt_le, nn_toInt ha, nn_toInt hb]
  exact propext ⟨fun h => by omega, fun h => by omega⟩
theorem nn_inj {a b : Nat} (ha : a < 2147483648) (hb : b < 2147483648) (h : nn a = nn b) : a = b := by
  have h1 := congrArg Int32.toInt h
  rw [nn_toInt ha, nn_toInt hb] at h1
  omega
theorem nn_eq {a b : Nat} (ha : a < 2147483648) (hb : b < 2147483648) : (nn a = nn b) = (a = b) := propext ⟨nn_inj ha hb, fun h => by rw [h]⟩
theorem nn_add (a b : Nat) : nn a + nn b = nn (a + b) := by
  unfold nn
  rw [← Int32.ofInt_eq_ofNat, ← Int32.ofInt_eq_ofNat, ← Int32.ofInt_eq_ofNat, ← Int32.ofInt_add]
  rfl
theorem nn_mul (a b : Nat) : nn a * nn b = nn (a * b) := by
  unfold nn
  rw [← Int32.ofInt_eq_ofNat, ← Int32.ofInt_eq_ofNat, ← Int32.ofInt_eq_ofNat, ← Int32.ofInt_mul]
  rfl
theorem nn_sub {a b : Nat} (h : b ≤ a) : nn a - nn b = nn (a - b) := by
  unfold nn
  rw [← Int32.ofInt_eq_ofNat, ← Int32.ofInt_eq_ofNat, ← Int32.ofInt_eq_ofNat, ← Int32.ofInt_sub]
  exact congrArg Int32.ofInt (Int.ofNat_sub h).symm
theorem nn_dec {a : Nat} (h : 1 ≤ a) : nn a + (-1 : Int32) = nn (a - 1) := by
  have h1 : nn a + (-1 : Int32) = nn a - nn 1 := by
    rw [Int32.sub_eq_add_neg]
    rfl
  rw [h1, nn_sub h]
theorem nn_div {a b : Nat} (ha : a < 2147483648) (hb : b < 2147483648) : nn a / nn b = nn (a / b) := by
  apply Int32.toInt_inj.1
  have hd : a / b < 2147483648 := Nat.lt_of_le_of_lt (Nat.div_le_self a b) ha
  rw [Int32.toInt_div_of_ne_left _ _ (fun h => by
    have h1 := congrArg Int32.toInt h
    rw [nn_toInt ha] at h1
    have h2 : Int32.minValue.toInt = -2147483648 := rfl
    omega), nn_toInt ha, nn_toInt hb, nn_toInt hd, Int.tdiv_eq_ediv_of_nonneg (by omega)]
  simp
theorem if_lt {α : Type} {a b : Nat} (ha : a < 2147483648) (hb : b < 2147483648) (x y : α) : (if nn a < nn b then x else y) = if a < b then x else y := by
  by_cases h : a < b
  · rw [if_pos h, if_pos (by rw [nn_lt ha hb]; exact h)]
  · rw [if_neg h, if_neg (by rw [nn_lt ha hb]; exact h)]
theorem if_le {α : Type} {a b : Nat} (ha : a < 2147483648) (hb : b < 2147483648) (x y : α) : (if nn a ≤ nn b then x else y) = if a ≤ b then x else y := by
  by_cases h : a ≤ b
  · rw [if_pos h, if_pos (by rw [nn_le ha hb]; exact h)]
  · rw [if_neg h, if_neg (by rw [nn_le ha hb]; exact h)]
theorem if_eq {α : Type} {a b : Nat} (ha : a < 2147483648) (hb : b < 2147483648) (x y : α) : (if nn a = nn b then x else y) = if a = b then x else y := by
  by_cases h : a = b
  · rw [if_pos h, if_pos (by rw [nn_eq ha hb]; exact h)]
  · rw [if_neg h, if_neg (by rw [nn_eq ha hb]; exact h)]
theorem nn_if {c : Prop} {d : Decidable c} (a b : Nat) : (@ite _ c d (nn a) (nn b)) = nn (@ite _ c d a b) := by
  by_cases h : c
  · rw [if_pos h, if_pos h]
  · rw [if_neg h, if_neg h]
theorem nn_tn {a : Nat} (h : a < 2147483648) : (nn a).toNatClampNeg = a := by
  rw [← Int32.toNat_toInt, nn_toInt h]
  rfl
theorem nn_neg {a : Nat} (h : a < 2147483648) : (nn a < 0) = False := by
  rw [Int32.lt_iff_toInt_lt, nn_toInt h]
  refine eq_false ?_
  show ¬ ((a : Int) < 0)
  omega
theorem nn_of {x : Int32} (h : ¬ x < 0) : ∃ a, a < 2147483648 ∧ x = nn a := by
  rw [Int32.lt_iff_toInt_lt] at h
  have h0 : ¬ x.toInt < 0 := h
  refine ⟨x.toInt.toNat, ?_, ?_⟩
  · have := x.toInt_lt
    omega
  · apply Int32.toInt_inj.1
    have := x.toInt_lt
    rw [nn_toInt (by omega)]
    omega
theorem nn_or (x : Int32) : x < 0 ∨ ∃ a, a < 2147483648 ∧ x = nn a := by
  by_cases h : x < 0
  · exact Or.inl h
  · exact Or.inr (nn_of h)
theorem ng_lt {x : Int32} {a : Nat} (h : x < 0) (ha : a < 2147483648) : x < nn a := by
  rw [Int32.lt_iff_toInt_lt] at *
  rw [nn_toInt ha]
  have h0 : x.toInt < 0 := h
  omega
/-! the whole numbers: ii m is the int of m -/
def ii (m : Int) : Int32 := Int32.ofInt m
theorem ii_nn (k : Nat) : ii (k : Int) = nn k := Int32.ofInt_eq_ofNat
theorem ii_toInt {m : Int} (h1 : -2147483648 ≤ m) (h2 : m < 2147483648) : (ii m).toInt = m := Int32.toInt_ofInt_of_le (by omega) (by omega)
theorem ii_of (x : Int32) : ∃ m : Int, -2147483648 ≤ m ∧ m < 2147483648 ∧ x = ii m := by
  refine ⟨x.toInt, ?_, ?_, ?_⟩
  · exact Int32.le_toInt x
  · exact x.toInt_lt
  · exact (Int32.ofInt_toInt x).symm
theorem ii_lt {a b : Int} (ha : -2147483648 ≤ a ∧ a < 2147483648) (hb : -2147483648 ≤ b ∧ b < 2147483648) : (ii a < ii b) = (a < b) := by
  rw [Int32.lt_iff_toInt_lt, ii_toInt ha.1 ha.2, ii_toInt hb.1 hb.2]
theorem ii_le {a b : Int} (ha : -2147483648 ≤ a ∧ a < 2147483648) (hb : -2147483648 ≤ b ∧ b < 2147483648) : (ii a ≤ ii b) = (a ≤ b) := by
  rw [Int32.le_iff_toInt_le, ii_toInt ha.1 ha.2, ii_toInt hb.1 hb.2]
theorem ii_eq {a b : Int} (ha : -2147483648 ≤ a ∧ a < 2147483648) (hb : -2147483648 ≤ b ∧ b < 2147483648) : (ii a = ii b) = (a = b) := by
  refine propext ⟨fun h => ?_, fun h => by rw [h]⟩
  have h1 := congrArg Int32.toInt h
  rwa [ii_toInt ha.1 ha.2, ii_toInt hb.1 hb.2] at h1
theorem ii_add (a b : Int) : ii a + ii b = ii (a + b) := (Int32.ofInt_add a b).symm
theorem ii_sub (a b : Int) : ii a - ii b = ii (a - b) := (Int32.ofInt_sub a b).symm
theorem ii_mul (a b : Int) : ii a * ii b = ii (a * b) := (Int32.ofInt_mul a b).symm
theorem im1 : (-1 : Int32) = ii (-1) := rfl
/-! steps: a walk that may fail ends, with Q of what it answers -/
def ok {α : Type} (x : Option α) (Q : α → Prop) : Prop := ∃ a, x = some a ∧ Q a
theorem ok_some {α : Type} {a : α} {Q : α → Prop} (h : Q a) : ok (some a) Q := ⟨a, rfl, h⟩
theorem ok_eq {α : Type} {x : Option α} {a : α} {Q : α → Prop} (e : x = some a) (h : Q a) : ok x Q := ⟨a, e, h⟩
theorem ok_of {α : Type} {x y : Option α} {Q : α → Prop} (e : x = y) (h : ok y Q) : ok x Q := e ▸ h
theorem ok_imp {α : Type} {x : Option α} {P Q : α → Prop} (h : ok x P) (k : ∀ a, P a → Q a) : ok x Q := by
  obtain ⟨a, e, p⟩ := h
  exact ⟨a, e, k a p⟩
theorem ob1_some {α β : Type} (a : α) (f : α → Option β) : ob1 (some a) f = f a := rfl
theorem ob2_some {α β γ : Type} (a : α) (b : β) (f : α → β → Option γ) : ob2 (some (a, b)) f = f a b := rfl
theorem ob3_some {α β γ δ : Type} (a : α) (b : β) (c : γ) (f : α → β → γ → Option δ) : ob3 (some (a, b, c)) f = f a b c := rfl
theorem sa1 {α β : Type} {x : Option α} {a : α} {f : α → Option β} {Q : β → Prop} (e : x = some a) (h : ok (f a) Q) : ok (ob1 x f) Q := by subst e; exact h
theorem sa2 {α β γ : Type} {x : Option (α × β)} {a : α} {b : β} {f : α → β → Option γ} {Q : γ → Prop} (e : x = some (a, b)) (h : ok (f a b) Q) : ok (ob2 x f) Q := by subst e; exact h
theorem sa3 {α β γ δ : Type} {x : Option (α × β × γ)} {a : α} {b : β} {c : γ} {f : α → β → γ → Option δ} {Q : δ → Prop} (e : x = some (a, b, c)) (h : ok (f a b c) Q) : ok (ob3 x f) Q := by subst e; exact h
theorem ca1 {α β : Type} {x : Option α} {f : α → Option β} {P : α → Prop} {Q : β → Prop} (e : ok x P) (h : ∀ a, P a → ok (f a) Q) : ok (ob1 x f) Q := by
  obtain ⟨a, rfl, p⟩ := e
  exact h a p
theorem ca2 {α β γ : Type} {x : Option (α × β)} {f : α → β → Option γ} {P : α × β → Prop} {Q : γ → Prop} (e : ok x P) (h : ∀ a b, P (a, b) → ok (f a b) Q) : ok (ob2 x f) Q := by
  obtain ⟨⟨a, b⟩, rfl, p⟩ := e
  exact h a b p
theorem ca3 {α β γ δ : Type} {x : Option (α × β × γ)} {f : α → β → γ → Option δ} {P : α × β × γ → Prop} {Q : δ → Prop} (e : ok x P) (h : ∀ a b c, P (a, b, c) → ok (f a b c) Q) : ok (ob3 x f) Q := by
  obtain ⟨⟨a, b, c⟩, rfl, p⟩ := e
  exact h a b c p
theorem zl {α β : Type} {e : α} {f : α → Option β} {Q : β → Prop} (h : ok (f e) Q) : ok (zlet e f) Q := h
theorem ift {α : Type} {c : Prop} {d : Decidable c} {x y : Option α} {Q : α → Prop} (h : c) (k : ok x Q) : ok (@ite _ c d x y) Q := by rw [if_pos h]; exact k
theorem ifn {α : Type} {c : Prop} {d : Decidable c} {x y : Option α} {Q : α → Prop} (h : ¬ c) (k : ok y Q) : ok (@ite _ c d x y) Q := by rw [if_neg h]; exact k
theorem ifc {α : Type} {c : Prop} {d : Decidable c} {x y : Option α} {Q : α → Prop} (k1 : c → ok x Q) (k2 : ¬ c → ok y Q) : ok (@ite _ c d x y) Q := by
  by_cases h : c
  · exact ift h (k1 h)
  · exact ifn h (k2 h)
/-! reads and writes by number -/
theorem rd_nn {α : Type} {n a : Nat} {f : Nat → α} (h : a < n) (hn : n ≤ 2147483648) : rd n f (nn a) = some (f a) := by
  unfold rd
  rw [nn_tn (by omega), if_neg (by rw [nn_neg (by omega)]; simp; omega)]
theorem wr_nn {α : Type} {n a : Nat} {x : α} (h : a < n) (hn : n ≤ 2147483648) : wr n (nn a) x = some x := by
  unfold wr
  rw [nn_tn (by omega), if_neg (by rw [nn_neg (by omega)]; simp; omega)]
theorem upd_same (f : Nat → Int32) (k : Nat) (x : Int32) : upd f k x k = x := if_pos rfl
theorem upd_ne (f : Nat → Int32) {k j : Nat} (x : Int32) (h : j ≠ k) : upd f k x j = f j := if_neg h
theorem va_up_same {α : Type} (f : Nat → α) (k : Nat) (x : α) : va_up f k x k = x := if_pos rfl
theorem FU_eq : FU = 20000 := rfl
