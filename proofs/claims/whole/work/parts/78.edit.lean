/-! an edit: the reference keeps the past, the class goes on in the ring -/
theorem okP_more {on an on1 an1 : Nat} {P : PC} (h : okP on an P) (h1 : on ≤ on1) (h2 : an ≤ an1) : okP on1 an1 P := by
  intro q hq
  have := h q hq
  unfold okQ at *
  omega
theorem okV_more {on an on1 an1 : Nat} {v : LVa} (h : okV on an v) (h1 : on ≤ on1) (h2 : an ≤ an1) : okV on1 an1 v := ⟨okP_more h.1 h1 h2, h.2⟩
def PastR (M M1 : MS) (u L : Nat) : Prop := M1.1 17 = nn (min (u + 1) 30) ∧ M1.1 20 = nn 0 ∧ (∀ k, k + 1 < min (u + 1) 30 → M1.2.2.2 15 k = M.2.2.2 15 (k + (u + 1 - min (u + 1) 30)) ∧ M1.2.2.2 16 k = M.2.2.2 16 (k + (u + 1 - min (u + 1) 30))) ∧ M1.2.2.2 15 (min (u + 1) 30 - 1) = some L ∧ M1.2.2.2 16 (min (u + 1) 30 - 1) = some (L + 1) ∧ M1.2.2.2 22 = M.2.2.2 22 ∧ M1.2.2.2 23 = M.2.2.2 23
theorem PastR.cg {M M1 M2 : MS} {u L : Nat} (h : PastR M M1 u L) (e1 : M2.1 17 = M1.1 17) (e2 : M2.1 20 = M1.1 20) (e3 : M2.2.2.2 = M1.2.2.2) : PastR M M2 u L := by
  unfold PastR at *
  rw [e1, e2, e3]
  exact h
def Mg (M M1 : MS) : Prop := (∀ j, j ≠ 17 → j ≠ 20 → j ≠ 21 → M1.1 j = M.1 j) ∧ M1.2.1 = M.2.1 ∧ M1.2.2.1 = M.2.2.1
theorem edits_sp {A B : zH} {M : MS} {v : LVa} {u : Nat} (h : RBk M v.1) (hm : RMk M v) (h17 : M.1 17 = nn u) (hu : u ≤ 30) (hold : u = 30 → ∀ k, k < 30 → ∃ r r' z z', M.2.2.2 15 k = some r ∧ M.2.2.2 16 k = some r' ∧ (∀ M' : MS, gget (hG A M' B) r = some z) ∧ ∀ M' : MS, gget (hG A M' B) r' = some z') (h1 : (hG A M B).length + 2 ≤ zGL) (h2 : zs (hG A M B) + 3016 ≤ zKL) : ∃ M1 g g', fX7_edits A M B = some (M1, B ++ [KB v.1 g, KM g']) ∧ (∀ p, p < sz v.1 → g p = nn (cod v.1 p)) ∧ (∀ k, k < 8 → g' k = ii (v.2.1 k) ∧ g' (8 + k) = nn (v.2.2 k)) ∧ Mg M M1 ∧ PastR M M1 u (hG A M B).length ∧ M1.1 21 = -5 := by
  have hz := h.2.1
  obtain ⟨M1, g, g', e1, e2, e3, e4, e5, e6, e7, e8⟩ := keepsPast_sp (A := A) (B := B) h hm h17 hu hold h1 (by omega)
  refine ⟨mI (mI M1 20 0) 21 (-5), g, g', ?_, e2, e3, ⟨fun j h3 h4 h5 => ?_, e4.2.1, e4.2.2.1⟩, ⟨e5, rfl, e6, e7, e8, e4.2.2.2 22 (by decide) (by decide), e4.2.2.2 23 (by decide) (by decide)⟩, rfl⟩
  · unfold fX7_edits
    rw [e1, ob2_some, zlt, zlt]
  · show upd (upd M1.1 20 0) 21 (-5) j = _
    rw [upd_ne _ _ h5, upd_ne _ _ h4]
    exact e4.1 j h3
section EdOp
variable {G G1 A B : zH} {M : MS} {c c1 bu1 : Nat → Nat} {k ts1 : Nat} {tb1 : Int32} {a : TA} {ro ro1 : TR} {st st1 : TS} {s u f : Nat} {lv lv1 : Nat → Option Nat} {ke : TK} {pg pg1 qg1 : TP} {sc1 : Nat → Int32} {W : Nat → LVa} {V : LVa} {T St kd : Nat → Nat}
theorem op_ed (hGe : G = hG A M B) (hA : A.length = 27) (hcr : CR c) (hout : ∃ x, G[49]? = some (.inl (1, (1, .inr (.inl x))))) (h5 : Sm T St kd a ro st (s, u, f, lv) ke pg W) (h6 : Rf M G c T St kd a ro st (s, u, f, lv) W) (h1 : Cl G1 c1 bu1 (3016 * (4 * (k + 1) + a.2.1)) (a.1, ts1, 1, tb1) ro1 st1 ((s + 1) % 31, min (u + 1) 30, 0, lv1) ke pg1 qg1 sc1 (va_up W ((s + 1) % 31) V)) (hf : Fo G c G1 c1) (hts : ts1 ≤ a.2.1) : ∃ A1 B1, G1 = hG A1 M B1 ∧ A1.length = 27 ∧ ((hG A1 M B1).length + 2 ≤ zGL ∧ zs (hG A1 M B1) + 3016 ≤ zKL) ∧ (u = 30 → ∀ k, k < 30 → ∃ r r' z z', M.2.2.2 15 k = some r ∧ M.2.2.2 16 k = some r' ∧ (∀ M' : MS, gget (hG A1 M' B1) r = some z) ∧ ∀ M' : MS, gget (hG A1 M' B1) r' = some z') ∧ ∀ (M2 : MS) (g g' : Nat → Int32) (St1 : Nat → Nat), (∀ p, p < sz (W s).1 → g p = nn (cod (W s).1 p)) → (∀ k, k < 8 → g' k = ii ((W s).2.1 k) ∧ g' (8 + k) = nn ((W s).2.2 k)) → PastR M M2 u (hG A1 M B1).length → RTx M2 T ts1 → RRo M2 ro1 → ro1.1 ≤ 16 → RSt M2 St1 st1.1 st1.2.1 → (SG st1.2.2 St1 st1.1 st1.2.1 ∧ st1.1 ≤ 1600 ∧ st1.2.1 ≤ 6000) → st.1 ≤ st1.1 → st.2.1 ≤ st1.2.1 → RBk M2 V.1 → RMk M2 V → okV st1.1 st1.2.1 V → RTy M2 tb1 → Inv k (hG A1 M2 (B1 ++ [KB (W s).1 g, KM g'])) := by
  obtain ⟨A1, B1, y1, y2, hcp, hfin⟩ := op_st (k := k) hGe hA hcr hout h1 hf
  obtain ⟨r1, r2, r3, r4, r5, ⟨r6, r7, r8, r9⟩, r10, r11⟩ := h6
  obtain ⟨s1, s2, s3, s4, s5, s6, s7⟩ := h5
  have hs : s < 31 := s4.1
  have huf : u + f ≤ 30 := s4.2
  have hrm := h1.2.2.2.2.2
  have h50 := h1.2.2.2.2.1
  rw [y1] at hrm h50
  have hr1 : zs (hG A1 M B1) + (bsum bu1 36 + 3016 * (4 * (k + 1) + a.2.1)) ≤ zKL := hrm.1
  have hr2 : 12 * (hG A1 M B1).length + (bsum bu1 36 + 3016 * (4 * (k + 1) + a.2.1)) ≤ 12 * zGL := hrm.2
  have hsz : sz (W s).1 ≤ 3000 := (s5 s hs (Or.inl (by show (s + 31 - s) % 31 ≤ f; omega))).2.1
  refine ⟨A1, B1, y1, y2, ⟨by omega, by omega⟩, ?_, ?_⟩
  · intro hu k hk
    obtain ⟨h, h', g, g', q1, q2, q3, q4, ⟨q5, q6, q7, q8⟩, q9⟩ := (r8 k (by show k < u; omega)).fo hf
    rw [y1] at q3 q4
    refine ⟨h, h', (sz (W ((s + 31 - u + k) % 31)).1, g), (16, g'), q1, q2, fun M' => ?_, fun M' => ?_⟩
    · have := hG_other (K := []) (M := M) (M' := M') y2 (j := h) (Or.inr (by omega)) (G_lt q3)
      rw [List.append_nil] at this
      rw [← this] at q3
      exact gget_at q3
    · have := hG_other (K := []) (M := M) (M' := M') y2 (j := h') (Or.inr (by omega)) (G_lt q4)
      rw [List.append_nil] at this
      rw [← this] at q4
      exact gget_at q4
  · intro M2 g g' St1 hg hg' hpa hTx hRo hro hSt hSG ho1 ho2 hBk hMk hV hTy
    obtain ⟨p1, p2, p3, p4, p5, p6, p7⟩ := hpa
    have hl := hG_len A1 M B1
    have hzK : zs [KB (W s).1 g, KM g'] = sz (W s).1 + 16 := by
      show sz (W s).1 + (16 + 0) = _
      omega
    have hWn : ∀ i, i ≠ (s + 1) % 31 → va_up W ((s + 1) % 31) V i = W i := fun i hi => if_neg hi
    refine hfin [KB (W s).1 g, KM g'] M2 T St1 kd (by rw [hzK]; show 3016 * (4 * k + ts1) + _ ≤ _; omega) (by show 3016 * (4 * k + ts1) + 12 * 2 ≤ _; omega) ⟨s1, ⟨by show ts1 ≤ 80; have := s2.1; omega, by show 1 ≤ 1; omega, hro⟩, hSG, ⟨by show (s + 1) % 31 < 31; omega, by show min (u + 1) 30 + 0 ≤ 30; omega⟩, ?_, ?_, fun h => by cases h⟩ ⟨hTx, hRo, hSt, ?_, ?_, ⟨p1, p2, fun j hj => ?_, fun j hj => ?_⟩, ?_, hTy⟩
    · intro i hi hw
      change (i + 31 - (s + 1) % 31) % 31 ≤ 0 ∨ ((s + 1) % 31 + 31 - i) % 31 ≤ min (u + 1) 30 at hw
      by_cases e : i = (s + 1) % 31
      · subst e
        rw [va_up_same]
        exact hV
      · rw [hWn i e]
        refine okV_more (s5 i hi (Or.inr ?_)) ho1 ho2
        show (s + 31 - i) % 31 ≤ u
        omega
    · intro j hj
      obtain ⟨t1, t2, t3⟩ := s6 j hj
      refine ⟨t1, t2, fun h => ?_⟩
      rw [hWn (31 + j) (by omega)]
      exact ⟨okV_more (t3 h).1 ho1 ho2, (t3 h).2⟩
    · show RBk M2 (va_up W ((s + 1) % 31) V ((s + 1) % 31)).1
      rw [va_up_same]
      exact hBk
    · show RMk M2 (va_up W ((s + 1) % 31) V ((s + 1) % 31))
      rw [va_up_same]
      exact hMk
    · change j < min (u + 1) 30 at hj
      show CpA _ _ (M2.2.2.2 15 j) (M2.2.2.2 16 j) (va_up W ((s + 1) % 31) V (((s + 1) % 31 + 31 - min (u + 1) 30 + j) % 31))
      rw [hWn _ (by omega)]
      by_cases e : j + 1 < min (u + 1) 30
      · rw [(p3 j e).1, (p3 j e).2]
        have := hcp [KB (W s).1 g, KM g'] M2 _ _ _ (r8 (j + (u + 1 - min (u + 1) 30)) (by show _ < u; omega))
        rw [show ((s + 1) % 31 + 31 - min (u + 1) 30 + j) % 31 = (s + 31 - u + (j + (u + 1 - min (u + 1) 30))) % 31 by omega]
        exact this
      · have ej : j = min (u + 1) 30 - 1 := by omega
        subst ej
        rw [p4, p5, show ((s + 1) % 31 + 31 - min (u + 1) 30 + (min (u + 1) 30 - 1)) % 31 = s by omega]
        refine ⟨(hG A1 M B1).length, (hG A1 M B1).length + 1, g, g', rfl, rfl, hG_at0 hl, ?_, ⟨if_neg (by omega), if_neg (by omega), by omega, by omega⟩, hg, hg'⟩
        have := hG_at0 (A := A1) (B := B1 ++ [KB (W s).1 g]) (K := []) (M := M2) (x := KM g') (r := (hG A1 M B1).length + 1) (by rw [hl]; simp only [List.length_append, List.length_cons, List.length_nil]; omega)
        rw [List.append_assoc] at this
        exact this
    · have : j < 0 := hj
      omega
    · intro j hj
      rw [p6, p7]
      obtain ⟨t1, t2⟩ := r10 j hj
      refine ⟨t1, fun h => ?_⟩
      rw [hWn (31 + j) (by omega)]
      exact hcp _ M2 _ _ _ (t2 h)
end EdOp
