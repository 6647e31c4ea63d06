/-! the invariant holds at the start -/
def gI (h : Nat) : Nat → Int32 := match GS[h]? with
  | some (.inl (_, (_, .inl f))) => f
  | _ => fun _ => 0
def gL0 (h : Nat) : Nat → Int64 := match GS[h]? with
  | some (.inl (_, (_, .inr (.inl f)))) => f
  | _ => fun _ => 0
def gQ0 (h : Nat) : Nat → Option Nat := match GS[h]? with
  | some (.inl (_, (_, .inr (.inr (.inr (.inr f)))))) => f
  | _ => fun _ => none
def gF (j : Nat) : Int32 := match (GS[27]? : Option zE) with
  | some (.inr (_, fs)) => (match (fs[j]? : Option Value) with
    | some (.int x) => x
    | _ => 0)
  | _ => 0
def pM (j : Nat) : Nat := 27 + (if j = 3 then 2 else if j = 6 then 3 else if j = 7 then 4 else if j = 10 then 5 else if j = 12 then 6 else if j = 13 then 7 else if j = 14 then 8 else if j < 31 then j - 9 else j - 11)
def pQ (j : Nat) : Nat := 27 + (if j < 18 then j - 6 else if j < 22 then j - 7 else j - 9)
def M0 : MS := (gF, fun j => gI (pM j), gL0 28, fun j => gQ0 (pQ j))
theorem GS_h : GS = hG (GS.take 27) M0 (GS.drop 49) := rfl
def cS : Nat → Nat := fun h => if h < 10 then 0 else if h < 15 then 270 + h else if h < 20 then 273 + h else if h < 27 then 0 else 800
theorem FX_start : FX GS (fun _ => 0, 0, 0, -1) (0, fun _ => 0) (0, 0, fun _ => 0) (0, 0, 0, fun _ => none) (fun _ => none, fun _ => 0) (0, fun _ => 0, fun _ => 0) (0, fun _ => 0, fun _ => 0) (fun _ => 0) := ⟨rfl, rfl, rfl, rfl, rfl, rfl, rfl, rfl, rfl, rfl, rfl, rfl, rfl, rfl, rfl, rfl, rfl⟩
theorem mk_start : (∀ k, k < 8 → gI 13 k = ii (-1) ∧ gI 14 k = nn 0) ∧ (∀ k, k < 8 → gI 18 k = ii (-1) ∧ gI 19 k = nn 0) ∧ ∀ k, k < 8 → gI 33 k = ii (-1) ∧ gI 34 k = nn 0 := by decide +kernel
theorem clip_start : Lf GS cS 35 10 17996 [] (fun _ => -1) (fun _ => 0) := by
  refine ⟨11, 12, 13, 14, 16, gI 11, gI 12, gI 13, gI 14, ⟨⟨rfl, rfl, rfl, rfl, rfl⟩, rfl, rfl, rfl, rfl, rfl⟩, AL_nil _ _, fun k hk => ?_, by simp, by omega, by omega, fun _ => by omega⟩
  obtain ⟨h1, h2⟩ := mk_start.1 k hk
  exact ⟨h1, fun h => absurd h (show ¬ (0 : Int) ≤ -1 by decide), Or.inl h2⟩
theorem trial_start : Lf GS cS 36 15 17996 [] (fun _ => -1) (fun _ => 0) := by
  refine ⟨16, 17, 18, 19, 16, gI 16, gI 17, gI 18, gI 19, ⟨⟨rfl, rfl, rfl, rfl, rfl⟩, rfl, rfl, rfl, rfl, rfl⟩, AL_nil _ _, fun k hk => ?_, by simp, by omega, by omega, fun _ => by omega⟩
  obtain ⟨h1, h2⟩ := mk_start.2.1 k hk
  exact ⟨h1, fun h => absurd h (show ¬ (0 : Int) ≤ -1 by decide), Or.inl h2⟩
theorem LW_start : LW GS cS (fun _ => 17996) (hvf (fun _ => none) (fun _ => none)) (fun _ => e0) := by
  intro i hi
  show LO GS cS (i + 1) (if i < 31 then none else if i < 34 then none else if i = 34 then some 10 else some 15) 17996 e0
  by_cases h1 : i < 31
  · rw [if_pos h1]
    exact ⟨rfl, Nat.le_refl _⟩
  · rw [if_neg h1]
    by_cases h2 : i < 34
    · rw [if_pos h2]
      exact ⟨rfl, Nat.le_refl _⟩
    · rw [if_neg h2]
      by_cases h3 : i = 34
      · subst h3
        exact clip_start
      · obtain rfl : i = 35 := by omega
        exact trial_start
theorem okV_start : okV 0 0 e0 := ⟨fun q hq => (nomatch hq), by decide, fun k _ => ⟨Int.le_refl _, show (-1 : Int) ≤ (0 : Nat) by decide, Nat.zero_le _⟩⟩
theorem Inv_start : ∀ k, k ≤ 512 → Inv k GS := by
  intro k hk
  refine ⟨cS, fun _ => 17996, (fun _ => 0, 0, 0, -1), (0, fun _ => 0), (0, 0, fun _ => 0), (0, 0, 0, fun _ => none), (fun _ => none, fun _ => 0), (0, fun _ => 0, fun _ => 0), (0, fun _ => 0, fun _ => 0), fun _ => 0, fun _ => e0, M0, GS.take 27, GS.drop 49, fun _ => 0, fun _ => 0, fun _ => 0, ⟨FX_start, LW_start, ?_, ?_, ?_, ?_⟩, GS_h, rfl, ⟨_, rfl⟩, ⟨fun i _ => ⟨rfl, Nat.zero_le _⟩, ⟨by decide, by decide, by decide⟩, ⟨?_, by decide, by decide⟩, ⟨by decide, by decide⟩, fun i _ _ => okV_start, fun j _ => ⟨rfl, Nat.zero_le _, fun h => absurd h (show ¬ (0 : Nat) = 1 by decide)⟩, fun _ => ⟨rfl, fun p hp => absurd hp (Nat.not_lt_zero _)⟩⟩, ?_⟩
  · intro h hh
    show (if h < 10 then 0 else if h < 15 then 270 + h else if h < 20 then 273 + h else if h < 27 then 0 else 800) / 8 = 0
    rcases hh with hh | hh
    · rw [if_pos (by omega)]
    · rw [if_neg (by omega), if_neg (by omega), if_neg (by omega), if_pos (by omega)]
  · intro h h1 h2
    show (if h < 10 then 0 else if h < 15 then 270 + h else if h < 20 then 273 + h else if h < 27 then 0 else 800) = 800
    rw [if_neg (by omega), if_neg (by omega), if_neg (by omega), if_neg (by omega)]
  · exact Nat.le_of_ble_eq_true rfl
  · have e1 : bsum (fun _ => 17996) 36 = 647856 := rfl
    have e2 : GS.length = 50 := rfl
    have e3 := GS_slots
    show zs GS + (bsum (fun _ => 17996) 36 + 3016 * (4 * k + 0)) ≤ zKL ∧ 12 * GS.length + (bsum (fun _ => 17996) 36 + 3016 * (4 * k + 0)) ≤ 12 * zGL
    rw [e1, e2]
    unfold zKL zGL
    omega
  · intro k hk
    unfold vs at hk
    simp only at hk
    omega
  · refine ⟨⟨fun i _ => rfl, rfl⟩, ⟨rfl, fun k hk => absurd hk (Nat.not_lt_zero _)⟩, ⟨rfl, rfl, Nat.zero_le _, Nat.zero_le _, fun k hk => absurd hk (Nat.not_lt_zero _), fun k hk => absurd hk (Nat.not_lt_zero _)⟩, ⟨rfl, by decide, fun p hp => absurd hp (Nat.not_lt_zero _)⟩, fun k hk => mk_start.2.2 k hk, ⟨rfl, rfl, fun k hk => absurd hk (Nat.not_lt_zero _), fun k hk => absurd hk (Nat.not_lt_zero _)⟩, fun j hj => ⟨fun _ => rfl, fun h => absurd h (show ¬ (0 : Nat) = 1 by decide)⟩, Or.inl ⟨rfl, rfl⟩⟩
