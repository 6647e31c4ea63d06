/-! all leaves; the class as a whole -/
def bsum (b : Nat → Nat) : Nat → Nat
  | 0 => 0
  | n + 1 => bsum b n + b n
theorem bsum_up {b : Nat → Nat} {i n : Nat} (h : i < n) : ∃ d, bsum b n = b i + d ∧ ∀ v, bsum (va_up b i v) n = v + d := by
  induction n with
  | zero => omega
  | succ n ih =>
    by_cases e : i = n
    · subst e
      refine ⟨bsum b i, by simp only [bsum]; omega, fun v => ?_⟩
      have : ∀ m, m ≤ i → bsum (va_up b i v) m = bsum b m := by
        intro m
        induction m with
        | zero => intro _; rfl
        | succ m ihm =>
          intro hm
          simp only [bsum]
          rw [ihm (by omega), va_up_ne _ _ (by omega)]
      simp only [bsum]
      rw [this i (Nat.le_refl _), va_up_same]
      omega
    · obtain ⟨d, h1, h2⟩ := ih (by omega)
      refine ⟨d + b n, by simp only [bsum]; omega, fun v => ?_⟩
      simp only [bsum]
      rw [h2 v, va_up_ne _ _ (by omega)]
      omega
abbrev LVa : Type := PC × (Nat → Int) × (Nat → Nat)
def e0 : LVa := ([], fun _ => -1, fun _ => 0)
def LO (G : zH) (c : Nat → Nat) (i : Nat) (q : Option Nat) (b : Nat) (v : LVa) : Prop := match q with
  | none => v = e0 ∧ 17996 ≤ b
  | some r => Lf G c i r b v.1 v.2.1 v.2.2
theorem LO.kept {G G' : zH} {c c' : Nat → Nat} {i j b : Nat} {q : Option Nat} {v : LVa} (h : LO G c j q b v) (hf : Fr i G c G' c') (hn : j ≠ i) : LO G' c' j q b v := by
  cases q with
  | none => exact h
  | some r => exact LfS.kept h hf hn
def hvf (lv kv : Nat → Option Nat) : Nat → Option Nat := fun i => if i < 31 then lv i else if i < 34 then kv (i - 31) else if i = 34 then some 10 else some 15
theorem hvf_ring {lv kv : Nat → Option Nat} {i : Nat} (h : i < 31) : hvf lv kv i = lv i := if_pos h
theorem hvf_kept {lv kv : Nat → Option Nat} {i : Nat} (h : i < 3) : hvf lv kv (31 + i) = kv i := by
  unfold hvf
  rw [if_neg (by omega), if_pos (by omega), Nat.add_sub_cancel_left]
theorem hvf_clip {lv kv : Nat → Option Nat} : hvf lv kv 34 = some 10 := rfl
theorem hvf_trial {lv kv : Nat → Option Nat} : hvf lv kv 35 = some 15 := rfl
theorem hvf_lv {lv kv : Nat → Option Nat} {i r : Nat} (h : i < 31) : hvf (va_up lv i (some r)) kv = va_up (hvf lv kv) i (some r) := by
  funext j
  by_cases e : j = i
  · subst e
    rw [va_up_same, hvf_ring h, va_up_same]
  · rw [va_up_ne _ _ e]
    unfold hvf
    by_cases e1 : j < 31
    · rw [if_pos e1, if_pos e1, va_up_ne _ _ e]
    · rw [if_neg e1, if_neg e1]
theorem hvf_kv {lv kv : Nat → Option Nat} {i r : Nat} (h : i < 3) : hvf lv (va_up kv i (some r)) = va_up (hvf lv kv) (31 + i) (some r) := by
  funext j
  by_cases e : j = 31 + i
  · subst e
    rw [va_up_same, hvf_kept h, va_up_same]
  · rw [va_up_ne _ _ e]
    unfold hvf
    by_cases e1 : j < 31
    · rw [if_pos e1, if_pos e1]
    · rw [if_neg e1, if_neg e1]
      by_cases e2 : j < 34
      · rw [if_pos e2, if_pos e2, va_up_ne _ _ (by omega)]
      · rw [if_neg e2, if_neg e2]
def LW (G : zH) (c bu : Nat → Nat) (hv : Nat → Option Nat) (W : Nat → LVa) : Prop := ∀ i, i < 36 → LO G c (i + 1) (hv i) (bu i) (W i)
def CR (c : Nat → Nat) : Prop := ∀ h, 27 ≤ h → h ≤ 49 → c h = 800
/-- what is not the class's stays -/
def Fo (G : zH) (c : Nat → Nat) (G' : zH) (c' : Nat → Nat) : Prop := G.length ≤ G'.length ∧ (∀ h, h < G.length → c' h = c h) ∧ ∀ h, h < G.length → c h = 800 → G'[h]? = G[h]?
theorem Fo.refl (G : zH) (c : Nat → Nat) : Fo G c G c := ⟨Nat.le_refl _, fun _ _ => rfl, fun _ _ _ => rfl⟩
theorem Fo.trans {G G1 G2 : zH} {c c1 c2 : Nat → Nat} (h1 : Fo G c G1 c1) (h2 : Fo G1 c1 G2 c2) : Fo G c G2 c2 := by
  obtain ⟨a1, a2, a3⟩ := h1
  obtain ⟨b1, b2, b3⟩ := h2
  refine ⟨by omega, fun h hh => ?_, fun h hh hc => ?_⟩
  · rw [b2 h (by omega), a2 h hh]
  · rw [b3 h (by omega) (by rw [a2 h hh]; exact hc), a3 h hh hc]
theorem Fr.fo {i : Nat} {G G' : zH} {c c' : Nat → Nat} (h : Fr i G c G' c') (hi : i < 100) : Fo G c G' c' := ⟨h.1, h.2.1, fun k hk hc => h.2.2 k hk (by rw [hc]; omega)⟩
abbrev TA : Type := (Nat → Int32) × Nat × Nat × Int32
abbrev TR : Type := Nat × (Nat → Int64)
abbrev TS : Type := Nat × Nat × (Nat → Int32)
abbrev TH : Type := Nat × Nat × Nat × (Nat → Option Nat)
abbrev TK : Type := (Nat → Option Nat) × (Nat → Int32)
abbrev TP : Type := Nat × (Nat → Int32) × (Nat → Int32)
def Cl (G : zH) (c bu : Nat → Nat) (n : Nat) (a : TA) (ro : TR) (st : TS) (hi : TH) (ke : TK) (pg qg : TP) (sc : Nat → Int32) (W : Nat → LVa) : Prop := FX G a ro st hi ke pg qg sc ∧ LW G c bu (hvf hi.2.2.2 ke.1) W ∧ C0 c ∧ CR c ∧ 50 ≤ G.length ∧ Rm G (bsum bu 36 + n)
section World
variable {G G' : zH} {c c' bu : Nat → Nat} {n : Nat} {a a' : TA} {ro ro' : TR} {st st' : TS} {hi hi' : TH} {ke ke' : TK} {pg pg' qg qg' : TP} {sc sc' : Nat → Int32} {W : Nat → LVa}
theorem Cl.fx (h : Cl G c bu n a ro st hi ke pg qg sc W) (hf : FX G' a' ro' st' hi' ke' pg' qg' sc') (u : Up 0 G c 0 G' c 0) (e1 : hi'.2.2.2 = hi.2.2.2) (e2 : ke'.1 = ke.1) : Cl G' c bu n a' ro' st' hi' ke' pg' qg' sc' W := by
  obtain ⟨h1, h2, h3, h4, h5, h6⟩ := h
  refine ⟨hf, ?_, h3, h4, Nat.le_trans h5 u.1.1, ?_⟩
  · rw [e1, e2]
    intro i hi
    exact (h2 i hi).kept u.1 (by omega)
  · have := u.2
    unfold Rm at *
    omega
theorem Cl.leaf (h : Cl G c bu n a ro st hi ke pg qg sc W) {i b' : Nat} {w : LVa} (hi36 : i < 36) (u : Up (i + 1) G c (bu i) G' c' b') (hl : LO G' c' (i + 1) (hvf hi.2.2.2 ke.1 i) b' w) : Cl G' c' (va_up bu i b') n a ro st hi ke pg qg sc (va_up W i w) := by
  obtain ⟨h1, h2, h3, h4, h5, h6⟩ := h
  have hlen := u.1.1
  refine ⟨h1.kept u.1 (fun k hk => by rw [h3 k hk]; omega), ?_, ?_, ?_, by omega, ?_⟩
  · intro j hj
    by_cases e : j = i
    · subst e
      rw [va_up_same, va_up_same]
      exact hl
    · rw [va_up_ne _ _ e, va_up_ne _ _ e]
      exact (h2 j hj).kept u.1 (by omega)
  · intro k hk
    rw [u.1.2.1 k (by omega)]
    exact h3 k hk
  · intro k k1 k2
    rw [u.1.2.1 k (by omega)]
    exact h4 k k1 k2
  · obtain ⟨d, d1, d2⟩ := bsum_up (b := bu) hi36
    have := u.2
    unfold Rm at *
    rw [d2]
    omega
theorem Cl.rm (h : Cl G c bu n a ro st hi ke pg qg sc W) {i : Nat} (hi : i < 36) : ∃ d, Rm G (bu i + d) := by
  obtain ⟨d, d1, d2⟩ := bsum_up (b := bu) hi
  exact ⟨d + n, by have := h.2.2.2.2.2; rw [d1] at this; rw [← Nat.add_assoc]; exact this⟩
theorem Cl.rm2 (h : Cl G c bu n a ro st hi ke pg qg sc W) {i j : Nat} (hi : i < 36) (hj : j < 36) (hij : i ≠ j) : ∃ d, Rm G (bu i + bu j + d) := by
  obtain ⟨d, d1, d2⟩ := bsum_up (b := bu) hi
  have h3 : ∃ d', d = bu j + d' := by
    obtain ⟨e, e1, e2⟩ := bsum_up (b := va_up bu i 0) hj
    rw [d2 0, va_up_ne _ _ (Ne.symm hij)] at e1
    exact ⟨e, by omega⟩
  obtain ⟨d', hd⟩ := h3
  refine ⟨d' + n, ?_⟩
  have := h.2.2.2.2.2
  rw [d1, hd] at this
  rw [show bu i + bu j + (d' + n) = bu i + (bu j + d') + n by omega]
  exact this
end World
/-! a new leaf -/
theorem fset_new {G K : zH} {fs : List Value} {j : Nat} {v : Value} (hj : j < fs.length) : fset (G ++ .inr (2, fs) :: K) G.length 2 j v = some (G ++ .inr (2, fs.set j v) :: K) := by
  have h1 : (G ++ .inr (2, fs) :: K)[G.length]? = some (.inr (2, fs)) := zo_get (k := 0) rfl
  have h2 : (G ++ .inr (2, fs) :: K).set G.length (.inr (2, fs.set j v)) = G ++ .inr (2, fs.set j v) :: K := zo_set (k := 0) rfl
  rw [fset_at h1 hj, h2]
theorem init2_sp {G : zH} {c : Nat → Nat} {b d i : Nat} (hb : 17996 ≤ b) (hr : Rm G (b + d)) : ok (fX2_init (G ++ [.inr (2, [.null, .null, .int 0, .int 0, .null, .null])]) G.length) fun G' => ∃ c', Lf G' c' i G.length (b - 60) [] (fun _ => -1) (fun _ => 0) ∧ Up i G c b G' c' (b - 60) := by
  unfold Rm zKL zGL at hr
  unfold fX2_init
  rw [q16, q8]
  have l1 : ∀ K : zH, (G ++ K).length = G.length + K.length := fun K => List.length_append
  refine sa1 (gN_at (n := 16) (by omega) (by rw [l1]; unfold zGL; simp; omega) (by rw [zs_app]; unfold zKL; simp [zs, zsz]; omega)) ?_
  refine zl ?_
  refine zl ?_
  rw [List.append_assoc, l1]
  refine sa1 (fset_new (by simp)) ?_
  refine sa1 (gN_at (n := 16) (by omega) (by rw [l1]; unfold zGL; simp; omega) (by rw [zs_app]; unfold zKL; simp [zs, zsz]; omega)) ?_
  refine zl ?_
  refine zl ?_
  rw [List.append_assoc, l1]
  refine sa1 (fset_new (by simp)) ?_
  refine sa1 (gN_at (n := 8) (by omega) (by rw [l1]; unfold zGL; simp; omega) (by rw [zs_app]; unfold zKL; simp [zs, zsz]; omega)) ?_
  refine zl ?_
  refine zl ?_
  rw [List.append_assoc, l1]
  refine sa1 (fset_new (by simp)) ?_
  refine sa1 (gN_at (n := 8) (by omega) (by rw [l1]; unfold zGL; simp; omega) (by rw [zs_app]; unfold zKL; simp [zs, zsz]; omega)) ?_
  refine zl ?_
  refine zl ?_
  rw [List.append_assoc, l1]
  refine sa1 (fset_new (by simp)) ?_
  refine sa1 (frf_at (zo_get (k := 0) rfl) rfl) ?_
  have e3 : (G ++ ([.inr (2, [.ref (G.length + 1), .ref (G.length + 2), .int 0, .int 0, .ref (G.length + 3), .ref (G.length + 4)]), .inl (0, (16, .inl (fun _ => 0))), .inl (0, (16, .inl (fun _ => 0))), .inl (0, (8, .inl (fun _ => 0))), .inl (3, (8, .inl (fun _ => 0)))] : zH))[G.length + 3]? = some (.inl (0, (8, .inl (fun _ => 0)))) := zo_get (k := 3) rfl
  refine sa1 (fill_sp (n := 8) (by omega) e3) ?_
  have e4 : (G ++ ([.inr (2, [.ref (G.length + 1), .ref (G.length + 2), .int 0, .int 0, .ref (G.length + 3), .ref (G.length + 4)]), .inl (0, (16, .inl (fun _ => 0))), .inl (0, (16, .inl (fun _ => 0))), .inl (0, (8, .inl (fun _ => 0))), .inl (3, (8, .inl (fun _ => 0)))] : zH)).set (G.length + 3) (.inl (0, (8, .inl (fun j => if j < 8 then (-1 : Int32) else (fun _ => 0) j)))) = G ++ ([.inr (2, [.ref (G.length + 1), .ref (G.length + 2), .int 0, .int 0, .ref (G.length + 3), .ref (G.length + 4)]), .inl (0, (16, .inl (fun _ => 0))), .inl (0, (16, .inl (fun _ => 0))), .inl (0, (8, .inl (fun j => if j < 8 then (-1 : Int32) else (fun _ => 0) j))), .inl (3, (8, .inl (fun _ => 0)))] : zH) := zo_set (k := 3) rfl
  refine ok_of (congrArg some e4) ?_
  refine ok_some ⟨va_up (va_up (va_up (va_up (va_up c G.length (8 * i)) (G.length + 1) (8 * i + 1)) (G.length + 2) (8 * i + 2)) (G.length + 3) (8 * i + 3)) (G.length + 4) (8 * i + 4), ?_, ?_⟩
  · refine ⟨G.length + 1, G.length + 2, G.length + 3, G.length + 4, 16, fun _ => 0, fun _ => 0, fun j => if j < 8 then (-1 : Int32) else (fun _ => 0) j, fun _ => 0, ⟨⟨?_, ?_, ?_, ?_, ?_⟩, zo_get (k := 0) rfl, zo_get (k := 1) rfl, zo_get (k := 2) rfl, zo_get (k := 3) rfl, zo_get (k := 4) rfl⟩, AL_nil _ _, fun k hk => ⟨?_, fun _ => rfl, Or.inl rfl⟩, by simp, by omega, by omega, fun _ => by omega⟩
    · rw [va_up_ne _ _ (by omega), va_up_ne _ _ (by omega), va_up_ne _ _ (by omega), va_up_ne _ _ (by omega), va_up_same]
    · rw [va_up_ne _ _ (by omega), va_up_ne _ _ (by omega), va_up_ne _ _ (by omega), va_up_same]
    · rw [va_up_ne _ _ (by omega), va_up_ne _ _ (by omega), va_up_same]
    · rw [va_up_ne _ _ (by omega), va_up_same]
    · rw [va_up_same]
    · show (if k < 8 then (-1 : Int32) else 0) = _
      rw [if_pos hk]
      rfl
  · refine ⟨⟨by simp, fun h hh => ?_, fun h hh _ => List.getElem?_append_left hh⟩, ?_, ?_⟩
    · rw [va_up_ne _ _ (by omega), va_up_ne _ _ (by omega), va_up_ne _ _ (by omega), va_up_ne _ _ (by omega), va_up_ne _ _ (by omega)]
    · rw [zs_app]
      simp [zs, zsz]
      omega
    · rw [l1]
      simp
      omega
