/-! the start: what the two constructors lay -/
def GS6 : zH := (fX6_init [.inr (6, fs6)] 0).getD []
def GS7 : zH := (fX7_init (GS6 ++ [.inr (7, fs7)]) 27).getD []
def GS : zH := GS7 ++ [.inl (1, (1, .inr (.inl (fun _ => 0))))]
theorem GS6_eq : fX6_init [.inr (6, fs6)] 0 = some GS6 := rfl
theorem GS6_len : 27 = GS6.length := rfl
theorem GS6_room : gP GS6 34 = some () := rfl
theorem GS7_eq : fX7_init (GS6 ++ [.inr (7, fs7)]) 27 = some GS7 := rfl
theorem GS7_len : 49 = GS7.length := rfl
theorem GS7_room : gN GS7 1 = some 1 := rfl
theorem LStart_of {Inv : Nat → zH → Prop} (h : ∀ k, k ≤ 512 → Inv k GS) : LStart Inv := ⟨GS6, GS7, GS6_eq, GS6_len, GS6_room, GS7_eq, GS7_len, GS7_room, h⟩
theorem GS_slots : zs GS ≤ 50000 := by decide +kernel
