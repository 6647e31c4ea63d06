/-! the classes, at the law's start -/
theorem zT_sub {w : Cond} (h : w ∈ zT) : w ∈ lw_tbl := (List.mem_filter.mp h).1
set_option maxRecDepth 20000 in
theorem zK_start {s : State} {A : Array Value} (hts : ∀ w ∈ lw_tbl, w.before A s = true) : ∃ (D : va_G) (cA : Nat → ClassId), zK D cA s := by
  have hz : ∀ w ∈ zT, w.before A s = true := fun w hw => hts w (zT_sub hw)
  obtain ⟨d0, s0, k0⟩ := u_known hz uwX0 (hz _ insX0)
  obtain ⟨d1, s1, k1⟩ := u_known hz uwX1 (hz _ insX1)
  obtain ⟨d2, s2, k2⟩ := u_known hz uwX2 (hz _ insX2)
  obtain ⟨d3, s3, k3⟩ := u_known hz uwX3 (hz _ insX3)
  obtain ⟨d4, s4, k4⟩ := u_known hz uwX4 (hz _ insX4)
  obtain ⟨d5, s5, k5⟩ := u_known hz uwX5 (hz _ insX5)
  obtain ⟨d6, s6, k6⟩ := u_known hz uwX6 (hz _ insX6)
  obtain ⟨d7, s7, k7⟩ := u_known hz uwX7 (hz _ insX7)
  have wI : (Cond.arrayClass .int).before A s = true := hts _ (by decide +kernel)
  have wJ : (Cond.arrayClass .long).before A s = true := hts _ (by decide +kernel)
  have wB : (Cond.arrayClass .byte).before A s = true := hts _ (by decide +kernel)
  have wZ : (Cond.arrayClass .boolean).before A s = true := hts _ (by decide +kernel)
  have wL : (Cond.arrayOver (.object "PieceBook$Leaf")).before A s = true := hts _ (by decide +kernel)
  have wA : (Cond.arrayOver (.array .int)).before A s = true := hts _ (by decide +kernel)
  have wN : ∀ w ∈ zNest, w ∈ lw_tbl := by decide +kernel
  have wO : ∀ w ∈ zNest, w.onTables = true := by decide +kernel
  obtain ⟨a0, kI, cI, fI, gI, hI⟩ := Cond.arrayClass_spec wI
  obtain ⟨a1, kJ, cJ, fJ, gJ, hJ⟩ := Cond.arrayClass_spec wJ
  obtain ⟨a2, kB, cB, fB, gB, hB⟩ := Cond.arrayClass_spec wB
  obtain ⟨a3, kZ, cZ, fZ, gZ, hZ⟩ := Cond.arrayClass_spec wZ
  obtain ⟨cL, a4, kL, eL, -, gL, hL, fL⟩ := Cond.arrayOver_spec wL
  obtain ⟨cA5, a5, kA, eA, gA, hA, fA⟩ := Cond.arrayOver_specA wA
  have e5 : cA5 = a0 := Option.some.inj (eA.symm.trans (show s.vm.findClass (FieldType.array .int).toString = some a0 from fI))
  subst e5
  refine ⟨(fun c => [d0, d1, d2, d3, d4, d5, d6, d7].getD c d0, fun c => [s0, s1, s2, s3, s4, s5, s6, s7].getD c s0), fun t => [cA5, a1, a2, a3, a4, a5].getD t cA5, ⟨fun c q hq => ?_, fun k q hk => ?_⟩, fun w hw => va_Nw.of (wO w hw) (hts w (wN w hw)), wL, ⟨kA, kI, gA, hA, gI⟩, wA⟩
  · match c, hq with
    | 0, hq => cases hq; exact k0
    | 1, hq => cases hq; exact k1
    | 2, hq => cases hq; exact k2
    | 3, hq => cases hq; exact k3
    | 4, hq => cases hq; exact k4
    | 5, hq => cases hq; exact k5
    | 6, hq => cases hq; exact k6
    | 7, hq => cases hq; exact k7
    | n + 8, hq => cases hq
  · match k, hk with
    | 0, hk => cases hk; exact ⟨fun n z => ⟨fun _ h => (by cases h), kI, gI, _, hI⟩, fI⟩
    | 1, hk => cases hk; exact ⟨fun n z => ⟨fun _ h => (by cases h), kJ, gJ, _, hJ⟩, fJ⟩
    | 2, hk => cases hk; exact ⟨fun n z => ⟨fun _ h => (by cases h), kB, gB, _, hB⟩, fB⟩
    | 3, hk => cases hk; exact ⟨fun n z => ⟨fun _ h => (by cases h), kZ, gZ, _, hZ⟩, fZ⟩
    | 4, hk => cases hk; exact ⟨fun n z => ⟨fun _ h => (by cases h), kL, gL, _, hL⟩, kL, cL, gL, hL, eL, fL⟩
    | 5, hk => cases hk; exact ⟨fun n z => ⟨fun _ h => (by cases h), kA, gA, _, hA⟩, fA⟩
    | n + 6, hk => cases hk
