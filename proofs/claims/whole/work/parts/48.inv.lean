/-! the invariant -/
def CpA (G : zH) (c : Nat → Nat) (q q' : Option Nat) (v : LVa) : Prop := ∃ h h' g g', q = some h ∧ q' = some h' ∧ G[h]? = some (.inl (0, (sz v.1, .inl g))) ∧ G[h']? = some (.inl (0, (16, .inl g'))) ∧ (c h = 800 ∧ c h' = 800 ∧ 50 ≤ h ∧ 50 ≤ h') ∧ (∀ p, p < sz v.1 → g p = nn (cod v.1 p)) ∧ ∀ k, k < 8 → g' k = ii (v.2.1 k) ∧ g' (8 + k) = nn (v.2.2 k)
theorem CpA.fo {G G' : zH} {c c' : Nat → Nat} {q q' : Option Nat} {v : LVa} (h : CpA G c q q' v) (hf : Fo G c G' c') : CpA G' c' q q' v := by
  obtain ⟨a, a', g, g', e1, e2, e3, e4, ⟨e5, e6, e7, e8⟩, e9⟩ := h
  refine ⟨a, a', g, g', e1, e2, ?_, ?_, ⟨?_, ?_, e7, e8⟩, e9⟩
  · rw [hf.2.2 a (G_lt e3) e5]; exact e3
  · rw [hf.2.2 a' (G_lt e4) e6]; exact e4
  · rw [hf.2.1 a (G_lt e3)]; exact e5
  · rw [hf.2.1 a' (G_lt e4)]; exact e6
def okV (on an : Nat) (v : LVa) : Prop := okP on an v.1 ∧ sz v.1 ≤ 3000 ∧ bdM v.2.1 v.2.2 (sz v.1)
abbrev win (hi : TH) (i : Nat) : Prop := (i + 31 - hi.1) % 31 ≤ hi.2.2.1 ∨ (hi.1 + 31 - i) % 31 ≤ hi.2.1
def Sm (T St kd : Nat → Nat) (a : TA) (ro : TR) (st : TS) (hi : TH) (ke : TK) (pg : TP) (W : Nat → LVa) : Prop :=
  (∀ i, i < 80 → a.1 i = nn (T i) ∧ T i ≤ 255) ∧ (a.2.1 ≤ 80 ∧ a.2.2.1 ≤ 1 ∧ ro.1 ≤ 16) ∧
  (SG st.2.2 St st.1 st.2.1 ∧ st.1 ≤ 1600 ∧ st.2.1 ≤ 6000) ∧
  (hi.1 < 31 ∧ hi.2.1 + hi.2.2.1 ≤ 30) ∧
  (∀ i, i < 31 → win hi i → okV st.1 st.2.1 (W i)) ∧
  (∀ j, j < 3 → ke.2 j = nn (kd j) ∧ kd j ≤ 1 ∧ (kd j = 1 → okV st.1 st.2.1 (W (31 + j)) ∧ ke.1 j ≠ none)) ∧
  (a.2.2.1 = 0 → PgTo pg (W hi.1).1 St (sz (W hi.1).1))
def RTx (M : MS) (T : Nat → Nat) (ts : Nat) : Prop := (∀ i, i < 80 → M.2.1 3 i = nn (T i)) ∧ M.1 4 = nn ts
def RRo (M : MS) (ro : TR) : Prop := M.1 1 = nn ro.1 ∧ ∀ k, k < ro.1 → M.2.2.1 k = ro.2 k
def RMk (M : MS) (v : LVa) : Prop := ∀ k, k < 8 → M.2.1 12 k = ii (v.2.1 k) ∧ M.2.1 13 k = nn (v.2.2 k)
def RHi (M : MS) (G : zH) (c : Nat → Nat) (hi : TH) (W : Nat → LVa) : Prop := M.1 17 = nn hi.2.1 ∧ M.1 20 = nn hi.2.2.1 ∧ (∀ k, k < hi.2.1 → CpA G c (M.2.2.2 15 k) (M.2.2.2 16 k) (W ((hi.1 + 31 - hi.2.1 + k) % 31))) ∧ ∀ k, k < hi.2.2.1 → CpA G c (M.2.2.2 18 k) (M.2.2.2 19 k) (W ((hi.1 + hi.2.2.1 - k) % 31))
def RKe (M : MS) (G : zH) (c kd : Nat → Nat) (W : Nat → LVa) : Prop := ∀ j, j < 3 → (kd j = 0 → M.2.2.2 22 j = none) ∧ (kd j = 1 → CpA G c (M.2.2.2 22 j) (M.2.2.2 23 j) (W (31 + j)))
def RTy (M : MS) (tb : Int32) : Prop := (tb = -1 ∧ M.1 21 = -5) ∨ ∃ p, p ≤ 3000 ∧ tb = nn (p + 1) ∧ M.1 21 = nn p
def Rf (M : MS) (G : zH) (c T St kd : Nat → Nat) (a : TA) (ro : TR) (st : TS) (hi : TH) (W : Nat → LVa) : Prop :=
  RTx M T a.2.1 ∧ RRo M ro ∧ RSt M St st.1 st.2.1 ∧ RBk M (W hi.1).1 ∧ RMk M (W hi.1) ∧ RHi M G c hi W ∧ RKe M G c kd W ∧ RTy M a.2.2.2
def Inv (k : Nat) (G : zH) : Prop := ∃ c bu a ro st hi ke pg qg sc W M A B T St kd, Cl G c bu (3016 * (4 * k + a.2.1)) a ro st hi ke pg qg sc W ∧ G = hG A M B ∧ A.length = 27 ∧ (∃ x, G[49]? = some (.inl (1, (1, .inr (.inl x))))) ∧ Sm T St kd a ro st hi ke pg W ∧ Rf M G c T St kd a ro st hi W
theorem Inv_obj (k : Nat) (G : zH) (h : Inv k G) : ∃ fs, G[0]? = some (.inr (6, fs)) := by
  obtain ⟨c, bu, a, ro, st, hi, ke, pg, qg, sc, W, M, A, B, T, St, kd, h1, -⟩ := h
  exact ⟨_, h1.1.g0⟩
theorem Cl.less {G : zH} {c bu : Nat → Nat} {n n' : Nat} {a : TA} {ro : TR} {st : TS} {hi : TH} {ke : TK} {pg qg : TP} {sc : Nat → Int32} {W : Nat → LVa} (h : Cl G c bu n a ro st hi ke pg qg sc W) (hn : n' ≤ n) : Cl G c bu n' a ro st hi ke pg qg sc W := by
  obtain ⟨h1, h2, h3, h4, h5, h6⟩ := h
  refine ⟨h1, h2, h3, h4, h5, ?_⟩
  unfold Rm at *
  omega
theorem Inv_mono (k : Nat) (G : zH) (h : Inv (k + 1) G) : Inv k G := by
  obtain ⟨c, bu, a, ro, st, hi, ke, pg, qg, sc, W, M, A, B, T, St, kd, h1, h2⟩ := h
  exact ⟨c, bu, a, ro, st, hi, ke, pg, qg, sc, W, M, A, B, T, St, kd, h1.less (by omega), h2⟩
/-! what the class does leaves the reference's cells -/
theorem fo_hG {A B G' : zH} {M : MS} {c c' : Nat → Nat} (hA : A.length = 27) (hf : Fo (hG A M B) c G' c') (hr : CR c) : ∃ A' B', G' = hG A' M B' ∧ A'.length = 27 := by
  have hl : 49 ≤ (hG A M B).length := by
    rw [List.length_append, List.length_append, hM_len]
    omega
  have hl2 := hf.1
  have ht : (G'.take 27).length = 27 := by rw [List.length_take]; omega
  refine ⟨G'.take 27, G'.drop 49, ?_, ht⟩
  apply List.ext_getElem?
  intro j
  rw [hG, ht]
  by_cases h1 : j < 27
  · rw [List.getElem?_append_left (by omega), List.getElem?_take_of_lt h1]
  · rw [List.getElem?_append_right (by omega), ht]
    by_cases h2 : j < 49
    · rw [List.getElem?_append_left (by rw [hM_len]; omega), hf.2.2 j (by omega) (hr j (by omega) (by omega))]
      rw [hG, List.getElem?_append_right (by omega), hA, List.getElem?_append_left (by rw [hM_len]; omega)]
    · rw [List.getElem?_append_right (by rw [hM_len]; omega), hM_len, List.getElem?_drop]
      congr 1
      omega
/-- what the reference does leaves the class's cells -/
theorem hG_other {A B K : zH} {M M' : MS} {j : Nat} (hA : A.length = 27) (hj : j < 27 ∨ 49 ≤ j) (hl : j < (hG A M B).length) : (hG A M' (B ++ K))[j]? = (hG A M B)[j]? := by
  rw [List.length_append, List.length_append, hM_len] at hl
  rcases hj with h | h
  · rw [hG, hG, List.getElem?_append_left (by omega), List.getElem?_append_left (by omega)]
  · have e : ∀ (N : MS) (L : zH), (hG A N L)[j]? = L[j - 27 - 22]? := by
      intro N L
      rw [hG, List.getElem?_append_right (by omega), List.getElem?_append_right (by rw [hM_len]; omega), hM_len, hA]
    rw [e, e, List.getElem?_append_left (by omega)]
theorem hM_zs (o : Nat) (M M' : MS) : zs (hM o M) = zs (hM o M') := rfl
theorem hG_zs (A B K : zH) (M M' : MS) : zs (hG A M' (B ++ K)) = zs (hG A M B) + zs K := by
  rw [hG, hG, zs_app, zs_app, zs_app, zs_app, zs_app, hM_zs A.length M' M]
  omega
def cR (c : Nat → Nat) (n : Nat) : Nat → Nat := fun h => if h < n then c h else 800
section RefStep
variable {A B K : zH} {M M' : MS} {c bu : Nat → Nat} {n n' : Nat} {a : TA} {ro : TR} {st : TS} {hi : TH} {ke : TK} {pg qg : TP} {sc : Nat → Int32} {W : Nat → LVa}
theorem Fr_ref (hA : A.length = 27) (hr : CR c) : Fr 100 (hG A M B) c (hG A M' (B ++ K)) (cR c (hG A M B).length) := by
  refine ⟨?_, fun h hh => if_pos hh, fun h hh hc => ?_⟩
  · simp only [List.length_append, hM_len]
    omega
  · refine hG_other hA ?_ hh
    by_cases e : 27 ≤ h ∧ h ≤ 49
    · rw [hr h e.1 e.2] at hc
      omega
    · omega
theorem Cl.ref (h : Cl (hG A M B) c bu n a ro st hi ke pg qg sc W) (hA : A.length = 27) (h1 : n' + zs K ≤ n) (h2 : n' + 12 * K.length ≤ n) : Cl (hG A M' (B ++ K)) (cR c (hG A M B).length) bu n' a ro st hi ke pg qg sc W := by
  obtain ⟨k1, k2, k3, k4, k5, k6⟩ := h
  have hF := Fr_ref (M' := M') (B := B) (K := K) (M := M) hA k4
  refine ⟨k1.kept hF (fun j hj => by rw [k3 j hj]; omega), ?_, ?_, ?_, ?_, ?_⟩
  · intro i hi
    exact (k2 i hi).kept hF (by omega)
  · intro j hj
    show (if _ then _ else _) / 8 = 0
    rw [if_pos (by omega)]
    exact k3 j hj
  · intro j j1 j2
    show (if _ then _ else _) = 800
    by_cases e : j < (hG A M B).length
    · rw [if_pos e]
      exact k4 j j1 j2
    · rw [if_neg e]
  · have := hF.1
    omega
  · have e1 : (hG A M' (B ++ K)).length = (hG A M B).length + K.length := by
      simp only [List.length_append, hM_len]
      omega
    have e2 := hG_zs A B K M M'
    have r1 : zs (hG A M B) + (bsum bu 36 + n) ≤ zKL := k6.1
    have r2 : 12 * (hG A M B).length + (bsum bu 36 + n) ≤ 12 * zGL := k6.2
    refine ⟨?_, ?_⟩
    · rw [e2]
      omega
    · rw [e1]
      omega
theorem CpA.ref {q q' : Option Nat} {v : LVa} (h : CpA (hG A M B) c q q' v) (hA : A.length = 27) : CpA (hG A M' (B ++ K)) (cR c (hG A M B).length) q q' v := by
  obtain ⟨a, a', g, g', e1, e2, e3, e4, ⟨e5, e6, e7, e8⟩, e9⟩ := h
  have l3 := G_lt e3
  have l4 := G_lt e4
  refine ⟨a, a', g, g', e1, e2, ?_, ?_, ⟨?_, ?_, e7, e8⟩, e9⟩
  · rw [hG_other hA (by omega) l3]; exact e3
  · rw [hG_other hA (by omega) l4]; exact e4
  · show (if _ then _ else _) = 800
    rw [if_pos l3]; exact e5
  · show (if _ then _ else _) = 800
    rw [if_pos l4]; exact e6
theorem out_ref {x : Nat → Int64} (h : (hG A M B)[49]? = some (.inl (1, (1, .inr (.inl x))))) (hA : A.length = 27) : (hG A M' (B ++ K))[49]? = some (.inl (1, (1, .inr (.inl x)))) := by
  rw [hG_other hA (by omega) (G_lt h)]
  exact h
end RefStep
