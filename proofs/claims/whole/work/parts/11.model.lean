/-! the reference: its object and arrays, from o on: int fields, int arrays, the long array, the arrays of arrays -/
abbrev MS : Type := (Nat → Int32) × (Nat → Nat → Int32) × (Nat → Int64) × (Nat → Nat → Option Nat)
def mI (M : MS) (k : Nat) (v : Int32) : MS := (upd M.1 k v, M.2)
def mA (M : MS) (k : Nat) (f : Nat → Int32) : MS := (M.1, va_up M.2.1 k f, M.2.2)
def mL (M : MS) (f : Nat → Int64) : MS := (M.1, M.2.1, f, M.2.2.2)
def mQ (M : MS) (k : Nat) (f : Nat → Option Nat) : MS := (M.1, M.2.1, M.2.2.1, va_up M.2.2.2 k f)
def mF (o : Nat) (M : MS) : List Value := [.int (M.1 0), .int (M.1 1), .ref (o + 1), .ref (o + 2), .int (M.1 4), .int (M.1 5), .ref (o + 3), .ref (o + 4), .int (M.1 8), .int (M.1 9), .ref (o + 5), .int (M.1 11), .ref (o + 6), .ref (o + 7), .ref (o + 8), .ref (o + 9), .ref (o + 10), .int (M.1 17), .ref (o + 11), .ref (o + 12), .int (M.1 20), .int (M.1 21), .ref (o + 13), .ref (o + 14), .ref (o + 15), .ref (o + 16), .ref (o + 17), .ref (o + 18), .ref (o + 19), .int (M.1 29), .int (M.1 30), .ref (o + 20), .ref (o + 21), .int (M.1 33)]
def hM (o : Nat) (M : MS) : zH := (.inr (7, mF o M) : zE) :: [.inl (1, (24, .inr (.inl M.2.2.1))), .inl (0, (80, .inl (M.2.1 3))), .inl (0, (1600, .inl (M.2.1 6))), .inl (0, (6000, .inl (M.2.1 7))), .inl (0, (3000, .inl (M.2.1 10))), .inl (0, (8, .inl (M.2.1 12))), .inl (0, (8, .inl (M.2.1 13))), .inl (0, (3000, .inl (M.2.1 14))), .inl (5, (30, .inr (.inr (.inr (.inr (M.2.2.2 15)))))), .inl (5, (30, .inr (.inr (.inr (.inr (M.2.2.2 16)))))), .inl (5, (30, .inr (.inr (.inr (.inr (M.2.2.2 18)))))), .inl (5, (30, .inr (.inr (.inr (.inr (M.2.2.2 19)))))), .inl (5, (3, .inr (.inr (.inr (.inr (M.2.2.2 22)))))), .inl (5, (3, .inr (.inr (.inr (.inr (M.2.2.2 23)))))), .inl (0, (8, .inl (M.2.1 24))), .inl (0, (80, .inl (M.2.1 25))), .inl (0, (80, .inl (M.2.1 26))), .inl (0, (80, .inl (M.2.1 27))), .inl (0, (80, .inl (M.2.1 28))), .inl (3, (6000, .inl (M.2.1 31))), .inl (0, (3000, .inl (M.2.1 32)))]
abbrev hG (A : zH) (M : MS) (B : zH) : zH := A ++ (hM A.length M ++ B)
theorem zo_get {A K : zH} {k : Nat} {e : zE} (h : K[k]? = some e) : (A ++ K)[A.length + k]? = some e := by rw [List.getElem?_append_right (Nat.le_add_right _ _), Nat.add_sub_cancel_left]; exact h
theorem zo_set {A K K' : zH} {k : Nat} {e : zE} (h : K.set k e = K') : (A ++ K).set (A.length + k) e = A ++ K' := by rw [List.set_append_right _ _ (Nat.le_add_right _ _), Nat.add_sub_cancel_left, h]
theorem hM_o (A : zH) (M : MS) (B : zH) : (hG A M B)[A.length]? = some (.inr (7, mF A.length M)) := zo_get (k := 0) rfl
theorem hM_l (o : Nat) (M : MS) : (mF o M).length = 34 := rfl
theorem hMi_0 (A : zH) {M M' : MS} (B : zH) {v : Int32} (e : M' = mI M 0 v) : (hG A M B).set A.length (.inr (7, (mF A.length M).set 0 (.int v))) = hG A M' B := by subst e; exact zo_set (k := 0) rfl
theorem hMi_1 (A : zH) {M M' : MS} (B : zH) {v : Int32} (e : M' = mI M 1 v) : (hG A M B).set A.length (.inr (7, (mF A.length M).set 1 (.int v))) = hG A M' B := by subst e; exact zo_set (k := 0) rfl
theorem hMi_4 (A : zH) {M M' : MS} (B : zH) {v : Int32} (e : M' = mI M 4 v) : (hG A M B).set A.length (.inr (7, (mF A.length M).set 4 (.int v))) = hG A M' B := by subst e; exact zo_set (k := 0) rfl
theorem hMi_5 (A : zH) {M M' : MS} (B : zH) {v : Int32} (e : M' = mI M 5 v) : (hG A M B).set A.length (.inr (7, (mF A.length M).set 5 (.int v))) = hG A M' B := by subst e; exact zo_set (k := 0) rfl
theorem hMi_8 (A : zH) {M M' : MS} (B : zH) {v : Int32} (e : M' = mI M 8 v) : (hG A M B).set A.length (.inr (7, (mF A.length M).set 8 (.int v))) = hG A M' B := by subst e; exact zo_set (k := 0) rfl
theorem hMi_9 (A : zH) {M M' : MS} (B : zH) {v : Int32} (e : M' = mI M 9 v) : (hG A M B).set A.length (.inr (7, (mF A.length M).set 9 (.int v))) = hG A M' B := by subst e; exact zo_set (k := 0) rfl
theorem hMi_11 (A : zH) {M M' : MS} (B : zH) {v : Int32} (e : M' = mI M 11 v) : (hG A M B).set A.length (.inr (7, (mF A.length M).set 11 (.int v))) = hG A M' B := by subst e; exact zo_set (k := 0) rfl
theorem hMi_17 (A : zH) {M M' : MS} (B : zH) {v : Int32} (e : M' = mI M 17 v) : (hG A M B).set A.length (.inr (7, (mF A.length M).set 17 (.int v))) = hG A M' B := by subst e; exact zo_set (k := 0) rfl
theorem hMi_20 (A : zH) {M M' : MS} (B : zH) {v : Int32} (e : M' = mI M 20 v) : (hG A M B).set A.length (.inr (7, (mF A.length M).set 20 (.int v))) = hG A M' B := by subst e; exact zo_set (k := 0) rfl
theorem hMi_21 (A : zH) {M M' : MS} (B : zH) {v : Int32} (e : M' = mI M 21 v) : (hG A M B).set A.length (.inr (7, (mF A.length M).set 21 (.int v))) = hG A M' B := by subst e; exact zo_set (k := 0) rfl
theorem hMi_29 (A : zH) {M M' : MS} (B : zH) {v : Int32} (e : M' = mI M 29 v) : (hG A M B).set A.length (.inr (7, (mF A.length M).set 29 (.int v))) = hG A M' B := by subst e; exact zo_set (k := 0) rfl
theorem hMi_30 (A : zH) {M M' : MS} (B : zH) {v : Int32} (e : M' = mI M 30 v) : (hG A M B).set A.length (.inr (7, (mF A.length M).set 30 (.int v))) = hG A M' B := by subst e; exact zo_set (k := 0) rfl
theorem hMi_33 (A : zH) {M M' : MS} (B : zH) {v : Int32} (e : M' = mI M 33 v) : (hG A M B).set A.length (.inr (7, (mF A.length M).set 33 (.int v))) = hG A M' B := by subst e; exact zo_set (k := 0) rfl
theorem hMa_2 (A : zH) (M : MS) (B : zH) : (hG A M B)[A.length + 1]? = some (.inl (1, (24, .inr (.inl M.2.2.1)))) := zo_get (k := 1) rfl
theorem hMs_2 (A : zH) {M M' : MS} (B : zH) {f : Nat → Int64} (e : M' = mL M f) : (hG A M B).set (A.length + 1) (.inl (1, (24, .inr (.inl f)))) = hG A M' B := by subst e; exact zo_set (k := 1) rfl
theorem hMa_3 (A : zH) (M : MS) (B : zH) : (hG A M B)[A.length + 2]? = some (.inl (0, (80, .inl (M.2.1 3)))) := zo_get (k := 2) rfl
theorem hMs_3 (A : zH) {M M' : MS} (B : zH) {f : Nat → Int32} (e : M' = mA M 3 f) : (hG A M B).set (A.length + 2) (.inl (0, (80, .inl f))) = hG A M' B := by subst e; exact zo_set (k := 2) rfl
theorem hMa_6 (A : zH) (M : MS) (B : zH) : (hG A M B)[A.length + 3]? = some (.inl (0, (1600, .inl (M.2.1 6)))) := zo_get (k := 3) rfl
theorem hMs_6 (A : zH) {M M' : MS} (B : zH) {f : Nat → Int32} (e : M' = mA M 6 f) : (hG A M B).set (A.length + 3) (.inl (0, (1600, .inl f))) = hG A M' B := by subst e; exact zo_set (k := 3) rfl
theorem hMa_7 (A : zH) (M : MS) (B : zH) : (hG A M B)[A.length + 4]? = some (.inl (0, (6000, .inl (M.2.1 7)))) := zo_get (k := 4) rfl
theorem hMs_7 (A : zH) {M M' : MS} (B : zH) {f : Nat → Int32} (e : M' = mA M 7 f) : (hG A M B).set (A.length + 4) (.inl (0, (6000, .inl f))) = hG A M' B := by subst e; exact zo_set (k := 4) rfl
theorem hMa_10 (A : zH) (M : MS) (B : zH) : (hG A M B)[A.length + 5]? = some (.inl (0, (3000, .inl (M.2.1 10)))) := zo_get (k := 5) rfl
theorem hMs_10 (A : zH) {M M' : MS} (B : zH) {f : Nat → Int32} (e : M' = mA M 10 f) : (hG A M B).set (A.length + 5) (.inl (0, (3000, .inl f))) = hG A M' B := by subst e; exact zo_set (k := 5) rfl
theorem hMa_12 (A : zH) (M : MS) (B : zH) : (hG A M B)[A.length + 6]? = some (.inl (0, (8, .inl (M.2.1 12)))) := zo_get (k := 6) rfl
theorem hMs_12 (A : zH) {M M' : MS} (B : zH) {f : Nat → Int32} (e : M' = mA M 12 f) : (hG A M B).set (A.length + 6) (.inl (0, (8, .inl f))) = hG A M' B := by subst e; exact zo_set (k := 6) rfl
theorem hMa_13 (A : zH) (M : MS) (B : zH) : (hG A M B)[A.length + 7]? = some (.inl (0, (8, .inl (M.2.1 13)))) := zo_get (k := 7) rfl
theorem hMs_13 (A : zH) {M M' : MS} (B : zH) {f : Nat → Int32} (e : M' = mA M 13 f) : (hG A M B).set (A.length + 7) (.inl (0, (8, .inl f))) = hG A M' B := by subst e; exact zo_set (k := 7) rfl
theorem hMa_14 (A : zH) (M : MS) (B : zH) : (hG A M B)[A.length + 8]? = some (.inl (0, (3000, .inl (M.2.1 14)))) := zo_get (k := 8) rfl
theorem hMs_14 (A : zH) {M M' : MS} (B : zH) {f : Nat → Int32} (e : M' = mA M 14 f) : (hG A M B).set (A.length + 8) (.inl (0, (3000, .inl f))) = hG A M' B := by subst e; exact zo_set (k := 8) rfl
theorem hMa_15 (A : zH) (M : MS) (B : zH) : (hG A M B)[A.length + 9]? = some (.inl (5, (30, .inr (.inr (.inr (.inr (M.2.2.2 15))))))) := zo_get (k := 9) rfl
theorem hMs_15 (A : zH) {M M' : MS} (B : zH) {f : Nat → Option Nat} (e : M' = mQ M 15 f) : (hG A M B).set (A.length + 9) (.inl (5, (30, .inr (.inr (.inr (.inr f)))))) = hG A M' B := by subst e; exact zo_set (k := 9) rfl
theorem hMa_16 (A : zH) (M : MS) (B : zH) : (hG A M B)[A.length + 10]? = some (.inl (5, (30, .inr (.inr (.inr (.inr (M.2.2.2 16))))))) := zo_get (k := 10) rfl
theorem hMs_16 (A : zH) {M M' : MS} (B : zH) {f : Nat → Option Nat} (e : M' = mQ M 16 f) : (hG A M B).set (A.length + 10) (.inl (5, (30, .inr (.inr (.inr (.inr f)))))) = hG A M' B := by subst e; exact zo_set (k := 10) rfl
theorem hMa_18 (A : zH) (M : MS) (B : zH) : (hG A M B)[A.length + 11]? = some (.inl (5, (30, .inr (.inr (.inr (.inr (M.2.2.2 18))))))) := zo_get (k := 11) rfl
theorem hMs_18 (A : zH) {M M' : MS} (B : zH) {f : Nat → Option Nat} (e : M' = mQ M 18 f) : (hG A M B).set (A.length + 11) (.inl (5, (30, .inr (.inr (.inr (.inr f)))))) = hG A M' B := by subst e; exact zo_set (k := 11) rfl
theorem hMa_19 (A : zH) (M : MS) (B : zH) : (hG A M B)[A.length + 12]? = some (.inl (5, (30, .inr (.inr (.inr (.inr (M.2.2.2 19))))))) := zo_get (k := 12) rfl
theorem hMs_19 (A : zH) {M M' : MS} (B : zH) {f : Nat → Option Nat} (e : M' = mQ M 19 f) : (hG A M B).set (A.length + 12) (.inl (5, (30, .inr (.inr (.inr (.inr f)))))) = hG A M' B := by subst e; exact zo_set (k := 12) rfl
theorem hMa_22 (A : zH) (M : MS) (B : zH) : (hG A M B)[A.length + 13]? = some (.inl (5, (3, .inr (.inr (.inr (.inr (M.2.2.2 22))))))) := zo_get (k := 13) rfl
theorem hMs_22 (A : zH) {M M' : MS} (B : zH) {f : Nat → Option Nat} (e : M' = mQ M 22 f) : (hG A M B).set (A.length + 13) (.inl (5, (3, .inr (.inr (.inr (.inr f)))))) = hG A M' B := by subst e; exact zo_set (k := 13) rfl
theorem hMa_23 (A : zH) (M : MS) (B : zH) : (hG A M B)[A.length + 14]? = some (.inl (5, (3, .inr (.inr (.inr (.inr (M.2.2.2 23))))))) := zo_get (k := 14) rfl
theorem hMs_23 (A : zH) {M M' : MS} (B : zH) {f : Nat → Option Nat} (e : M' = mQ M 23 f) : (hG A M B).set (A.length + 14) (.inl (5, (3, .inr (.inr (.inr (.inr f)))))) = hG A M' B := by subst e; exact zo_set (k := 14) rfl
theorem hMa_24 (A : zH) (M : MS) (B : zH) : (hG A M B)[A.length + 15]? = some (.inl (0, (8, .inl (M.2.1 24)))) := zo_get (k := 15) rfl
theorem hMs_24 (A : zH) {M M' : MS} (B : zH) {f : Nat → Int32} (e : M' = mA M 24 f) : (hG A M B).set (A.length + 15) (.inl (0, (8, .inl f))) = hG A M' B := by subst e; exact zo_set (k := 15) rfl
theorem hMa_25 (A : zH) (M : MS) (B : zH) : (hG A M B)[A.length + 16]? = some (.inl (0, (80, .inl (M.2.1 25)))) := zo_get (k := 16) rfl
theorem hMs_25 (A : zH) {M M' : MS} (B : zH) {f : Nat → Int32} (e : M' = mA M 25 f) : (hG A M B).set (A.length + 16) (.inl (0, (80, .inl f))) = hG A M' B := by subst e; exact zo_set (k := 16) rfl
theorem hMa_26 (A : zH) (M : MS) (B : zH) : (hG A M B)[A.length + 17]? = some (.inl (0, (80, .inl (M.2.1 26)))) := zo_get (k := 17) rfl
theorem hMs_26 (A : zH) {M M' : MS} (B : zH) {f : Nat → Int32} (e : M' = mA M 26 f) : (hG A M B).set (A.length + 17) (.inl (0, (80, .inl f))) = hG A M' B := by subst e; exact zo_set (k := 17) rfl
theorem hMa_27 (A : zH) (M : MS) (B : zH) : (hG A M B)[A.length + 18]? = some (.inl (0, (80, .inl (M.2.1 27)))) := zo_get (k := 18) rfl
theorem hMs_27 (A : zH) {M M' : MS} (B : zH) {f : Nat → Int32} (e : M' = mA M 27 f) : (hG A M B).set (A.length + 18) (.inl (0, (80, .inl f))) = hG A M' B := by subst e; exact zo_set (k := 18) rfl
theorem hMa_28 (A : zH) (M : MS) (B : zH) : (hG A M B)[A.length + 19]? = some (.inl (0, (80, .inl (M.2.1 28)))) := zo_get (k := 19) rfl
theorem hMs_28 (A : zH) {M M' : MS} (B : zH) {f : Nat → Int32} (e : M' = mA M 28 f) : (hG A M B).set (A.length + 19) (.inl (0, (80, .inl f))) = hG A M' B := by subst e; exact zo_set (k := 19) rfl
theorem hMa_31 (A : zH) (M : MS) (B : zH) : (hG A M B)[A.length + 20]? = some (.inl (3, (6000, .inl (M.2.1 31)))) := zo_get (k := 20) rfl
theorem hMs_31 (A : zH) {M M' : MS} (B : zH) {f : Nat → Int32} (e : M' = mA M 31 f) : (hG A M B).set (A.length + 20) (.inl (3, (6000, .inl f))) = hG A M' B := by subst e; exact zo_set (k := 20) rfl
theorem hMa_32 (A : zH) (M : MS) (B : zH) : (hG A M B)[A.length + 21]? = some (.inl (0, (3000, .inl (M.2.1 32)))) := zo_get (k := 21) rfl
theorem hMs_32 (A : zH) {M M' : MS} (B : zH) {f : Nat → Int32} (e : M' = mA M 32 f) : (hG A M B).set (A.length + 21) (.inl (0, (3000, .inl f))) = hG A M' B := by subst e; exact zo_set (k := 21) rfl
/-! what the walks are told by: each step may fail -/
def zlet {α β : Type} (e : α) (f : α → Option β) : Option β := f e
theorem zlet_eq {α β : Type} {e : α} {f : α → Option β} {r : β} (h : zlet e f = some r) : ∃ v, v = e ∧ f v = some r := ⟨e, rfl, h⟩
def ob1 {α β : Type} (x : Option α) (f : α → Option β) : Option β := match x with
  | some a => f a
  | none => none
theorem ob1_eq {α β : Type} {x : Option α} {f : α → Option β} {r : β} (h : ob1 x f = some r) : ∃ a, x = some a ∧ f a = some r := by
  cases x with
  | none => cases h
  | some a => exact ⟨a, rfl, h⟩
def ob2 {α β γ : Type} (x : Option (α × β)) (f : α → β → Option γ) : Option γ := match x with
  | some (a, b) => f a b
  | none => none
theorem ob2_eq {α β γ : Type} {x : Option (α × β)} {f : α → β → Option γ} {r : γ} (h : ob2 x f = some r) : ∃ a b, x = some (a, b) ∧ f a b = some r := by
  cases x with
  | none => cases h
  | some q => exact ⟨q.1, q.2, rfl, h⟩
def rd {α : Type} (n : Nat) (f : Nat → α) (i : Int32) : Option α := if i < 0 ∨ n ≤ i.toNatClampNeg then none else some (f i.toNatClampNeg)
theorem rd_eq {α : Type} {n : Nat} {f : Nat → α} {i : Int32} {v : α} (h : rd n f i = some v) : vp_in i n ∧ v = f i.toNatClampNeg := by
  unfold rd at h
  split at h
  · cases h
  · exact ⟨by assumption, (Option.some.inj h).symm⟩
def wr {α : Type} (n : Nat) (i : Int32) (x : α) : Option α := if i < 0 ∨ n ≤ i.toNatClampNeg then none else some x
theorem wr_eq {α : Type} {n : Nat} {i : Int32} {x v : α} (h : wr n i x = some v) : vp_in i n ∧ v = x := by
  unfold wr at h
  split at h
  · cases h
  · exact ⟨by assumption, (Option.some.inj h).symm⟩
def nz (y : Int32) : Option Unit := if y = 0 then none else some ()
theorem nz_eq {y : Int32} {u : Unit} (h : nz y = some u) : ¬ y = 0 := by
  unfold nz at h
  split at h
  · cases h
  · assumption
def bz (v : Int32) : Option Int32 := if v = 0 then some 0 else if v = 1 then some 1 else none
theorem bz_eq {v r : Int32} (h : bz v = some r) : r = v ∧ narrow .boolean (.int v) = .int v := by
  unfold bz at h
  split at h
  · rename_i h1
    subst h1
    exact ⟨(Option.some.inj h).symm, rfl⟩
  · split at h
    · rename_i h1
      subst h1
      exact ⟨(Option.some.inj h).symm, rfl⟩
    · cases h
def poI (r : Int32) (G0 : zH) : Option Value → zH → Prop := fun v G => v = some (.int r) ∧ G = G0
def poL (r : Int64) (G0 : zH) : Option Value → zH → Prop := fun v G => v = some (.long r) ∧ G = G0
def poV (G0 : zH) : Option Value → zH → Prop := fun v G => v = none ∧ G = G0
def FU : Nat := 20000
section ZTop
variable {X : zX} {pc : Nat} {lv : List (Nat × Value)} {st : List Value} {G : zH}
theorem z_topi {v x : Int32} (h : v = x) (kk : zZ X pc lv (.int v :: st) G) : zZ X pc lv (.int x :: st) G := h ▸ kk
theorem z_topl {v x : Int64} (h : v = x) (kk : zZ X pc lv (.long v :: st) G) : zZ X pc lv (.long x :: st) G := h ▸ kk
theorem z_hp {G' : zH} (h : G' = G) (kk : zZ X pc lv st G') : zZ X pc lv st G := h ▸ kk
theorem z_subL {lv' : List (Nat × Value)} (ks : List Nat) (kk : zZ X pc lv' st G) (hl : lv_pick lv ks = lv') : zZ X pc lv st G := z_sub ks hl kk
end ZTop
section ZCalls2
variable {X : zX} {cc : ByteArray} {own : String} {nL fr lo : Nat} {ret : Option FieldType} {pc : Nat} {lv : List (Nat × Value)} {st rest : List Value} {G G' : zH} {y : MethodName} {code : ByteArray} {maxL fr' lo' index n : Nat} {yret : Option FieldType} {As : List Value}
theorem z_callVi (C : zOK X cc own nL ret fr lo) {h ci : Nat} {fs : List Value} {T : u_T} {N : Nat} {r : Int32} (hd : decode cc pc = .ok (.invokevirtual index, 3)) (hw : zWV own index y code maxL yret n) (hM : zM X.1.2.1 X.2.2.1.1 X.2.2.1.2.1 X.2.2.1.2.2.1 y code maxL yret fr' lo' (.ref h :: As) G (poI r G')) (he : G[h]? = some (.inr (ci, fs))) (hc : vwCl[ci]? = some (y.cls, T, N)) (hn : As.length = n) (hst : As.reverse ++ .ref h :: rest = st) (hrm : (rest.map fun v => v.category).sum ≤ 8) (hR : fr' + 1 ≤ fr ∧ 8 + (maxL + 11) + lo' ≤ lo) (kk : zZ X (pc + 3) lv (.int r :: rest) G') : zZ X pc lv st G := z_callV C hd hw hM he hc hn hst hrm hR (fun v G' q => by obtain ⟨rfl, rfl⟩ := q; exact kk)
theorem z_callVl (C : zOK X cc own nL ret fr lo) {h ci : Nat} {fs : List Value} {T : u_T} {N : Nat} {r : Int64} (hd : decode cc pc = .ok (.invokevirtual index, 3)) (hw : zWV own index y code maxL yret n) (hM : zM X.1.2.1 X.2.2.1.1 X.2.2.1.2.1 X.2.2.1.2.2.1 y code maxL yret fr' lo' (.ref h :: As) G (poL r G')) (he : G[h]? = some (.inr (ci, fs))) (hc : vwCl[ci]? = some (y.cls, T, N)) (hn : As.length = n) (hst : As.reverse ++ .ref h :: rest = st) (hrm : (rest.map fun v => v.category).sum ≤ 8) (hR : fr' + 1 ≤ fr ∧ 8 + (maxL + 11) + lo' ≤ lo) (kk : zZ X (pc + 3) lv (.long r :: rest) G') : zZ X pc lv st G := z_callV C hd hw hM he hc hn hst hrm hR (fun v G' q => by obtain ⟨rfl, rfl⟩ := q; exact kk)
theorem z_callVv (C : zOK X cc own nL ret fr lo) {h ci : Nat} {fs : List Value} {T : u_T} {N : Nat} (hd : decode cc pc = .ok (.invokevirtual index, 3)) (hw : zWV own index y code maxL yret n) (hM : zM X.1.2.1 X.2.2.1.1 X.2.2.1.2.1 X.2.2.1.2.2.1 y code maxL yret fr' lo' (.ref h :: As) G (poV G')) (he : G[h]? = some (.inr (ci, fs))) (hc : vwCl[ci]? = some (y.cls, T, N)) (hn : As.length = n) (hst : As.reverse ++ .ref h :: rest = st) (hrm : (rest.map fun v => v.category).sum ≤ 8) (hR : fr' + 1 ≤ fr ∧ 8 + (maxL + 11) + lo' ≤ lo) (kk : zZ X (pc + 3) lv rest G') : zZ X pc lv st G := z_callV C hd hw hM he hc hn hst hrm hR (fun v G' q => by obtain ⟨rfl, rfl⟩ := q; exact kk)
theorem z_callSi (C : zOK X cc own nL ret fr lo) {r : Int32} (hd : decode cc pc = .ok (.invokestatic index, 3)) (hw : zWS own index y code maxL yret n) (hM : zM X.1.2.1 X.2.2.1.1 X.2.2.1.2.1 X.2.2.1.2.2.1 y code maxL yret fr' lo' As G (poI r G')) (hn : As.length = n) (hst : As.reverse ++ rest = st) (hrm : (rest.map fun v => v.category).sum ≤ 8) (hR : fr' + 1 ≤ fr ∧ 8 + (maxL + 11) + lo' ≤ lo) (kk : zZ X (pc + 3) lv (.int r :: rest) G') : zZ X pc lv st G := z_callS C hd hw hM hn hst hrm hR (fun v G' q => by obtain ⟨rfl, rfl⟩ := q; exact kk)
theorem z_callSv (C : zOK X cc own nL ret fr lo) (hd : decode cc pc = .ok (.invokestatic index, 3)) (hw : zWS own index y code maxL yret n) (hM : zM X.1.2.1 X.2.2.1.1 X.2.2.1.2.1 X.2.2.1.2.2.1 y code maxL yret fr' lo' As G (poV G')) (hn : As.length = n) (hst : As.reverse ++ rest = st) (hrm : (rest.map fun v => v.category).sum ≤ 8) (hR : fr' + 1 ≤ fr ∧ 8 + (maxL + 11) + lo' ≤ lo) (kk : zZ X (pc + 3) lv rest G') : zZ X pc lv st G := z_callS C hd hw hM hn hst hrm hR (fun v G' q => by obtain ⟨rfl, rfl⟩ := q; exact kk)
theorem z_callSNi (C : zOK X cc own nL ret fr lo) {r : Int32} (hd : decode cc pc = .ok (.invokestatic index, 3)) (hw : zWSN own index y code maxL yret n) (hM : zM X.1.2.1 X.2.2.1.1 X.2.2.1.2.1 X.2.2.1.2.2.1 y code maxL yret fr' lo' As G (poI r G')) (hn : As.length = n) (hst : As.reverse ++ rest = st) (hrm : (rest.map fun v => v.category).sum ≤ 8) (hR : fr' + 1 ≤ fr ∧ 8 + (maxL + 11) + lo' ≤ lo) (kk : zZ X (pc + 3) lv (.int r :: rest) G') : zZ X pc lv st G := z_callSN C hd hw hM hn hst hrm hR (fun v G' q => by obtain ⟨rfl, rfl⟩ := q; exact kk)
end ZCalls2
