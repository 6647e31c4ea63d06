/-! what is inserted: signs, beginnings -/
theorem src_succ {P : PC} {p : Nat} (hb : bgAt P p = 0) (hp : p < sz P) : 1 ≤ p ∧ srcAt P p = srcAt P (p - 1) + 1 := by
  obtain ⟨i, q, j, h1, h2, rfl⟩ := in_piece hp
  rw [bgAt_in h1 h2] at hb
  have hj : j ≠ 0 := by
    intro e
    rw [if_pos e] at hb
    omega
  refine ⟨by omega, ?_⟩
  rw [show sz (P.take i) + j - 1 = sz (P.take i) + (j - 1) by omega, srcAt_in h1 h2, srcAt_in h1 (show j - 1 < q.2 by omega)]
  omega
theorem join_at (X t : PC) (l q : Nat × Nat) (e2 : l.1 + l.2 = q.1) (h1 : 1 ≤ l.2) (h2 : 1 ≤ q.2) : (∀ p, srcAt (X ++ (l.1, l.2 + q.2) :: t) p = srcAt (X ++ l :: q :: t) p) ∧ ∀ p, bgAt (X ++ (l.1, l.2 + q.2) :: t) p = if p = sz X + l.2 then 0 else bgAt (X ++ l :: q :: t) p := by
  refine ⟨fun p => ?_, fun p => ?_⟩
  · rw [srcAt_app, srcAt_app]
    by_cases k1 : p < sz X
    · rw [if_pos k1, if_pos k1]
    · rw [if_neg k1, if_neg k1]
      simp only [srcAt]
      by_cases k2 : p - sz X < l.2
      · rw [if_pos (by omega), if_pos k2]
      · rw [if_neg k2]
        by_cases k3 : p - sz X - l.2 < q.2
        · rw [if_pos (by omega), if_pos k3]
          omega
        · rw [if_neg (by omega), if_neg k3, Nat.sub_sub (p - sz X)]
  · rw [bgAt_app, bgAt_app]
    by_cases k1 : p < sz X
    · rw [if_pos k1, if_pos k1, if_neg (by omega)]
    · rw [if_neg k1, if_neg k1]
      simp only [bgAt]
      by_cases k2 : p - sz X < l.2
      · rw [if_pos (show p - sz X < l.2 + q.2 by omega), if_pos k2, if_neg (show ¬ p = sz X + l.2 by omega)]
      · rw [if_neg k2]
        by_cases k3 : p - sz X - l.2 < q.2
        · rw [if_pos (show p - sz X < l.2 + q.2 by omega), if_pos k3, if_neg (show ¬ p - sz X = 0 by omega)]
          by_cases k4 : p = sz X + l.2
          · rw [if_pos k4]
          · rw [if_neg k4, if_neg (by omega)]
        · rw [if_neg (show ¬ p - sz X < l.2 + q.2 by omega), if_neg k3, if_neg (show ¬ p = sz X + l.2 by omega), Nat.sub_sub (p - sz X)]
theorem cutL_last {P : PC} {p : Nat} (hw : wfP P) (hp1 : 1 ≤ p) (hp : p ≤ sz P) : ∃ q, (cutL P p).getLast? = some q ∧ 1 ≤ q.2 ∧ q.1 + q.2 = srcAt P (p - 1) + 1 := by
  have hsz := sz_cutL hp
  have hne : cutL P p ≠ [] := by
    intro e
    rw [e, sz_nil] at hsz
    omega
  refine ⟨_, List.getLast?_eq_getLast hne, ?_⟩
  have hq := List.getLast?_eq_getLast hne
  generalize (cutL P p).getLast hne = q at hq
  have hs := last_split hq
  have hq1 : 1 ≤ q.2 := wf_cutL hw q (by rw [hs]; simp)
  refine ⟨hq1, ?_⟩
  have e1 := srcAt_cutL (P := P) (p := p) (i := p - 1) hp (by omega)
  have e2 : sz (cutL P p).dropLast + q.2 = p := by
    have := congrArg sz hs
    rw [hsz, sz_app, sz_cons, sz_nil] at this
    omega
  have e3 : srcAt (cutL P p) (p - 1) = srcAt ((cutL P p).dropLast ++ [q]) (p - 1) := by rw [← hs]
  rw [srcAt_app, if_neg (by omega)] at e3
  simp only [srcAt] at e3
  rw [if_pos (by omega)] at e3
  omega
abbrev goB (P : PC) (p an : Nat) : Prop := 1 ≤ p ∧ (p = sz P ∨ bgAt P p = 1) ∧ 1600 ≤ srcAt P (p - 1) ∧ srcAt P (p - 1) + 1 = 1600 + an
theorem insP_at {P : PC} {on an p n : Nat} (hk : okP on an P) (hon : on ≤ 1600) (hp : p ≤ sz P) (hn : 1 ≤ n) : (∀ i, srcAt (insP P p (1600 + an) n) i = srcAt (cutL P p ++ (1600 + an, n) :: cutR P p) i) ∧ ∀ i, bgAt (insP P p (1600 + an) n) i = if i = p ∧ goB P p an then 0 else bgAt (cutL P p ++ (1600 + an, n) :: cutR P p) i := by
  by_cases e0 : p = 0
  · subst e0
    have : insP P 0 (1600 + an) n = cutL P 0 ++ (1600 + an, n) :: cutR P 0 := by
      unfold insP
      rw [cutL_zero]
      rfl
    rw [this]
    refine ⟨fun _ => rfl, fun i => ?_⟩
    rw [if_neg (by rintro ⟨-, x, -⟩; omega)]
  · obtain ⟨q, hq, hq1, hq2⟩ := cutL_last (okP_wf hk) (by omega) hp
    have hs := last_split hq
    have hqk : okQ on an q := by
      have := ok_cutL (p := p) hk
      rw [hs] at this
      exact (okP_cons.mp (okP_app.mp this).2).1
    unfold okQ at hqk
    have hiff : (1600 ≤ q.1 ∧ q.1 + q.2 = 1600 + an) ↔ goB P p an := by
      constructor
      · rintro ⟨h1, h2⟩
        refine ⟨by omega, ?_, by omega, by omega⟩
        by_cases k1 : p = sz P
        · exact Or.inl k1
        · refine Or.inr ?_
          have hb := bgAt_le P p
          by_cases k2 : bgAt P p = 0
          · have := (src_succ k2 (by omega)).2
            have := okP_src hk (show p < sz P by omega)
            omega
          · omega
      · rintro ⟨h1, h2, h3, h4⟩
        omega
    have hins : insP P p (1600 + an) n = if 1600 ≤ q.1 ∧ q.1 + q.2 = 1600 + an then (cutL P p).dropLast ++ (q.1, q.2 + n) :: cutR P p else cutL P p ++ (1600 + an, n) :: cutR P p := by
      unfold insP
      rw [hq]
    by_cases e : 1600 ≤ q.1 ∧ q.1 + q.2 = 1600 + an
    · rw [if_pos e] at hins
      have hL : cutL P p ++ (1600 + an, n) :: cutR P p = (cutL P p).dropLast ++ q :: (1600 + an, n) :: cutR P p := by
        have : cutL P p ++ (1600 + an, n) :: cutR P p = ((cutL P p).dropLast ++ [q]) ++ (1600 + an, n) :: cutR P p := by rw [← hs]
        rw [this, List.append_assoc, List.singleton_append]
      obtain ⟨j1, j2⟩ := join_at (cutL P p).dropLast (cutR P p) q (1600 + an, n) e.2 hq1 hn
      have e2 : sz (cutL P p).dropLast + q.2 = p := by
        have := congrArg sz hs
        rw [sz_cutL hp, sz_app, sz_cons, sz_nil] at this
        omega
      rw [hins, hL]
      refine ⟨fun i => j1 i, fun i => (j2 i).trans ?_⟩
      rw [e2]
      by_cases k : i = p
      · rw [if_pos k, if_pos ⟨k, hiff.mp e⟩]
      · rw [if_neg k, if_neg (fun x => k x.1)]
    · rw [if_neg e] at hins
      rw [hins]
      refine ⟨fun _ => rfl, fun i => ?_⟩
      rw [if_neg (fun x => e (hiff.mpr x.2))]
theorem cod_insP {P : PC} {on an p n i : Nat} (hk : okP on an P) (hon : on ≤ 1600) (hp : p ≤ sz P) (hn : 1 ≤ n) (hi : i < sz P + n) : cod (insP P p (1600 + an) n) i = if i < p then cod P i else if i < p + n then 2 * (8192 + (an + (i - p))) + (if i = p ∧ ¬ goB P p an then 1 else 0) else if i = p + n then 2 * (cod P p / 2) + 1 else cod P (i - n) := by
  obtain ⟨h1, h2⟩ := insP_at hk hon hp hn
  have hw := okP_wf hk
  rw [cod_half]
  unfold cod
  rw [h1, h2, srcAt_app, bgAt_app, sz_cutL hp]
  by_cases e1 : i < p
  · rw [if_pos e1, if_pos e1, if_pos e1, if_neg (by rintro ⟨x, -⟩; omega), srcAt_cutL hp e1, bgAt_cutL hp e1]
  · rw [if_neg e1, if_neg e1, if_neg e1]
    simp only [srcAt, bgAt]
    by_cases e2 : i < p + n
    · rw [if_pos (show i - p < n by omega), if_pos (show i - p < n by omega), if_pos e2]
      have hpl : pl (1600 + an + (i - p)) = 8192 + (an + (i - p)) := by
        unfold pl
        rw [if_neg (by omega)]
        omega
      rw [hpl]
      congr 1
      by_cases k : i = p
      · by_cases g : goB P p an
        · rw [if_pos ⟨k, g⟩, if_neg (fun x => x.2 g)]
        · rw [if_neg (fun x => g x.2), if_pos (show i - p = 0 by omega), if_pos ⟨k, g⟩]
      · rw [if_neg (fun x => k x.1), if_neg (show ¬ i - p = 0 by omega), if_neg (fun x => k x.1)]
    · rw [if_neg (show ¬ i - p < n by omega), if_neg (show ¬ i - p < n by omega), if_neg e2, if_neg (by rintro ⟨x, -⟩; omega)]
      have a1 := srcAt_cutR (P := P) (p := p) (i := i - p - n) (by omega)
      have a2 := bgAt_cutR (P := P) (p := p) (i := i - p - n) hw (by omega)
      rw [show p + (i - p - n) = i - n by omega] at a1 a2
      rw [a1, a2]
      by_cases e3 : i = p + n
      · rw [if_pos (by omega), if_pos e3, show i - n = p by omega]
      · rw [if_neg (by omega), if_neg e3]
theorem goesOn7 {M : MS} {P : PC} {on an p : Nat} (h : RBk M P) (hk : okP on an P) (hon : on ≤ 1600) (han : an ≤ 6000) (h9 : M.1 9 = nn an) (hp : p ≤ sz P) : fX7_goesOn M (nn p) = some (nn (if goB P p an then 1 else 0)) := by
  have hz := h.2.1
  unfold fX7_goesOn
  rw [q0, if_le (by omega) (by omega)]
  by_cases e0 : p ≤ 0
  · rw [if_pos e0, if_neg (by rintro ⟨x, -⟩; omega)]
  · have s1 := src_lt hk hon han (show p - 1 < sz P by omega)
    have b20 : (p = sz P ∨ bgAt P p = 1) → fX7_goesOn_b20 M (nn p) = some (nn (if goB P p an then 1 else 0)) := by
      intro hb
      unfold fX7_goesOn_b20
      rw [q1, nn_sub (by omega), storeAt_sp h hk hon han (by omega), ob1_some, if_eq (by split <;> omega) (by omega)]
      by_cases e1 : srcAt P (p - 1) < 1600
      · rw [if_pos e1, if_neg (by omega), if_neg (by rintro ⟨-, -, x, -⟩; omega)]
        rfl
      · rw [if_neg e1, if_pos rfl, placeAt_sp h hk hon han (by omega), ob1_some, if_neg e1, h9, nn_subi]
        by_cases e2 : srcAt P (p - 1) + 1 = 1600 + an
        · rw [if_pos (show nn (srcAt P (p - 1) - 1600) = ii ((an : Int) - (1 : Nat)) by rw [nn_ii]; congr 1; omega), if_pos ⟨by omega, hb, by omega, e2⟩]
        · rw [if_neg (show ¬ nn (srcAt P (p - 1) - 1600) = ii ((an : Int) - (1 : Nat)) by rw [nn_ii, ii_eq (by omega) (by omega)]; omega), if_neg (by rintro ⟨-, -, -, x⟩; exact e2 x)]
          rfl
    rw [if_neg e0, h.1, if_eq (by omega) (by omega)]
    by_cases e1 : p = sz P
    · rw [if_pos e1]
      exact b20 (Or.inl e1)
    · rw [if_neg e1, begins_sp h hk hon han (by omega), ob1_some, if_eq (by have := bgAt_le P p; omega) (by omega)]
      by_cases e2 : bgAt P p = 0
      · rw [if_pos e2, if_neg (by rintro ⟨-, x, -⟩; omega)]
      · rw [if_neg e2]
        exact b20 (Or.inr (by have := bgAt_le P p; omega))
theorem coded1 {k w : Nat} (hw : w ≤ 1) : fX7_coded (nn 1) (nn k) (nn w) = some (nn (2 * (8192 + k) + w)) := by
  unfold fX7_coded
  rw [flag_nn hw, ob1_some, q2, q8192, nn_mul, nn_add, nn_mul, nn_add]
theorem comesIn7 {M : MS} {P : PC} {on an p n : Nat} {mk : Nat → Int} {st : Nat → Nat} (h : RBk M P) (hm : RMk M (P, mk, st)) (hbd : bdM mk st (sz P)) (hk : okP on an P) (hon : on ≤ 1600) (han : an + n ≤ 6000) (hp : p ≤ sz P) (hn : 1 ≤ n) (hz : sz P + n ≤ 3000) : ∃ M1, fX7_comesIn M (nn p) (nn an) (nn n) (nn (if goB P p an then 1 else 0)) = some M1 ∧ RBk M1 (insP P p (1600 + an) n) ∧ RMk M1 (insP P p (1600 + an) n, comeM p n mk st, st) ∧ Ft M M1 := by
  obtain ⟨M0, a1, a2, a3, a4, a5⟩ := opensGap_sp7 (x := p) (n := n) h.1 hz hp
  have fin : ∀ M', M'.1 11 = nn (sz P + n) → Fb M M' → (∀ j, j < n → M'.2.1 10 (p + j) = nn (2 * (8192 + (an + j)) + (if j = 0 ∧ ¬ goB P p an then 1 else 0))) → (∀ j, j < p ∨ p + n ≤ j → M'.2.1 10 j = M0.2.1 10 j) → ∃ M1, fX7_comesIn_b53 M' (nn p) (nn n) = some M1 ∧ RBk M1 (insP P p (1600 + an) n) ∧ RMk M1 (insP P p (1600 + an) n, comeM p n mk st, st) ∧ Ft M M1 := by
    intro M' k1 k2 k3 k4
    obtain ⟨M2, b1, b2, b3, b4, b5⟩ := partsAt_sp (x := p + n) (cv := cod P p) k1 hz (by omega) (fun hh => ⟨by rw [k4 (p + n) (Or.inr (Nat.le_refl _)), a4 p (Nat.le_refl _) (by omega)]; exact h.2.2 p (by omega), cod_small hk hon (show an ≤ 6000 by omega) (by omega)⟩)
    have hm2 : ∀ k, k < 8 → M2.2.1 12 k = ii (mk k) ∧ M2.2.1 13 k = nn (st k) := fun k hk => by rw [b5.2.1 12 (by decide), k2.2.1 12 (by decide), b5.2.1 13 (by decide), k2.2.1 13 (by decide)]; exact hm k hk
    obtain ⟨M3, c1, c2, c3⟩ := marksCome7_sp (x := p) (n := n) hm2 (fun k hk => by have := hbd k hk; omega) (by omega)
    refine ⟨M3, ?_, ⟨?_, by rw [sz_insP hp]; exact hz, fun i hi => ?_⟩, fun k hk => ⟨c2 k hk, ?_⟩, ⟨fun j hj => ?_, fun j j1 j2 => ?_, ?_⟩⟩
    · unfold fX7_comesIn_b53
      rw [nn_add, b1, ob1_some, c1, ob1_some]
    · rw [c3.1, b2, sz_insP hp]
    · rw [sz_insP hp] at hi
      rw [c3.2.1 10 (by decide), cod_insP hk hon hp hn hi]
      by_cases e1 : i < p
      · rw [if_pos e1, b3 i (by omega), k4 i (Or.inl e1), a3 i e1]
        exact h.2.2 i (by omega)
      · rw [if_neg e1]
        by_cases e2 : i < p + n
        · rw [if_pos e2, b3 i (by omega)]
          have := k3 (i - p) (by omega)
          rw [show p + (i - p) = i by omega] at this
          rw [this]
          congr 2
          by_cases g : i = p ∧ ¬ goB P p an
          · rw [if_pos g, if_pos ⟨by omega, g.2⟩]
          · rw [if_neg g, if_neg (fun x => g ⟨by omega, x.2⟩)]
        · rw [if_neg e2]
          by_cases e3 : i = p + n
          · rw [if_pos e3, e3]
            exact b4 (by omega)
          · have := a4 (i - n) (by omega) (by omega)
            rw [show i - n + n = i by omega] at this
            rw [if_neg e3, b3 i e3, k4 i (Or.inr (by omega)), this]
            exact h.2.2 _ (by omega)
    · rw [c3.2.1 13 (by decide)]
      exact (hm2 k hk).2
    · rw [c3.1, b5.1 j hj, k2.1 j hj]
    · rw [c3.2.1 j j2, b5.2.1 j j1, k2.2.1 j j1]
    · rw [c3.2.2, b5.2.2, k2.2.2]
  have key : ∀ fu k M', k ≤ n → n - k < fu → M'.1 11 = nn (sz P + n) → Fb M M' → (∀ j, j < k → M'.2.1 10 (p + j) = nn (2 * (8192 + (an + j)) + (if j = 0 ∧ ¬ goB P p an then 1 else 0))) → (∀ j, j < p ∨ p + k ≤ j → M'.2.1 10 j = M0.2.1 10 j) → ∃ M1, fX7_comesIn_b9 fu M' (nn p) (nn an) (nn n) (nn (if goB P p an then 1 else 0)) (nn k) = some M1 ∧ RBk M1 (insP P p (1600 + an) n) ∧ RMk M1 (insP P p (1600 + an) n, comeM p n mk st, st) ∧ Ft M M1 := by
    intro fu
    induction fu with
    | zero => intro k M' _ h; omega
    | succ fu ih =>
      intro k M' hk1 hfu k1 k2 k3 k4
      unfold fX7_comesIn_b9
      rw [if_le (by omega) (by omega)]
      by_cases e : n ≤ k
      · rw [if_pos e]
        exact fin M' k1 k2 (fun j hj => k3 j (by omega)) (fun j hj => k4 j (by omega))
      · rw [if_neg e]
        have step : ∀ w, w ≤ 1 → w = (if k = 0 ∧ ¬ goB P p an then 1 else 0) → ∃ M1, fX7_comesIn_b43 (fX7_comesIn_b9 fu) M' (nn p) (nn an) (nn n) (nn (if goB P p an then 1 else 0)) (nn k) (nn w) (nn an + nn k) 1 (nn p + nn k) = some M1 ∧ RBk M1 (insP P p (1600 + an) n) ∧ RMk M1 (insP P p (1600 + an) n, comeM p n mk st, st) ∧ Ft M M1 := by
          intro w hw1 hw
          unfold fX7_comesIn_b43
          rw [q1, nn_add, nn_add, coded1 hw1, ob1_some, wr_nn (show p + k < 3000 by omega) (by omega), ob1_some, nn_tn (by omega), nn_add, zlt]
          refine ih (k + 1) _ (by omega) (by omega) k1 (k2.trans (Fb.a10 _ _)) (fun j hj => ?_) (fun j hj => ?_)
          · show upd (M'.2.1 10) (p + k) _ (p + j) = _
            by_cases ej : j = k
            · rw [ej, upd_same, hw]
            · rw [upd_ne _ _ (by omega)]
              exact k3 j (by omega)
          · show upd (M'.2.1 10) (p + k) _ j = _
            rw [upd_ne _ _ (by omega)]
            exact k4 j (by omega)
        rw [q0, if_eq (by omega) (by omega)]
        by_cases e1 : k = 0
        · rw [if_pos e1, if_eq (by split <;> omega) (by omega)]
          by_cases g : goB P p an
          · rw [if_neg (by rw [if_pos g]; omega)]
            unfold fX7_comesIn_b42
            exact step 0 (by omega) (by rw [if_neg (fun x => x.2 g)])
          · rw [if_pos (by rw [if_neg g])]
            exact step 1 (by omega) (by rw [if_pos ⟨e1, g⟩])
        · rw [if_neg e1]
          unfold fX7_comesIn_b42
          exact step 0 (by omega) (by rw [if_neg (fun x => e1 x.1)])
  unfold fX7_comesIn
  rw [a1, ob1_some, q0]
  exact key FU 0 M0 (by omega) (by rw [FU_eq]; omega) a2 a5 (fun j hj => by omega) (fun _ _ => rfl)
/-! the stores grow -/
def stA (St : Nat → Nat) (an : Nat) (t : Nat → Nat) (n : Nat) : Nat → Nat := fun k => if 1600 + an ≤ k ∧ k < 1600 + an + n then t (k - (1600 + an)) else St k
def Fa (M M1 : MS) : Prop := (∀ j, j ≠ 9 → M1.1 j = M.1 j) ∧ (∀ j, j ≠ 7 → M1.2.1 j = M.2.1 j) ∧ M1.2.2 = M.2.2
theorem Fa.refl (M : MS) : Fa M M := ⟨fun _ _ => rfl, fun _ _ => rfl, rfl⟩
theorem Fa.trans {M M1 M2 : MS} (h : Fa M M1) (h2 : Fa M1 M2) : Fa M M2 := ⟨fun j hj => (h2.1 j hj).trans (h.1 j hj), fun j hj => (h2.2.1 j hj).trans (h.2.1 j hj), h2.2.2.trans h.2.2⟩
theorem Fa.one (M : MS) (g : Nat → Int32) (v : Int32) : Fa M (mI (mA M 7 g) 9 v) := ⟨fun _ hj => upd_ne _ _ hj, fun _ hj => if_neg hj, rfl⟩
/-- what was added: k of them so far -/
def Ad (M M1 : MS) (an : Nat) (t : Nat → Nat) (k : Nat) : Prop := Fa M M1 ∧ M1.1 9 = nn (an + k) ∧ (∀ j, j < an → M1.2.1 7 j = M.2.1 7 j) ∧ ∀ j, j < k → M1.2.1 7 (an + j) = nn (t j)
theorem Ad.zero {M : MS} {an : Nat} {t : Nat → Nat} (h : M.1 9 = nn an) : Ad M M an t 0 := ⟨Fa.refl _, h, fun _ _ => rfl, fun j hj => by omega⟩
theorem Ad.succ {M M1 : MS} {an k : Nat} {t : Nat → Nat} {x : Int32} (h : Ad M M1 an t k) (hx : x = nn (t k)) : Ad M (mI (mA M1 7 (upd (M1.2.1 7) (an + k) x)) 9 (nn (an + k) + nn 1)) an t (k + 1) := by
  obtain ⟨h1, h2, h3, h4⟩ := h
  refine ⟨h1.trans (Fa.one _ _ _), by rw [nn_add, Nat.add_assoc]; rfl, fun j hj => ?_, fun j hj => ?_⟩
  · show upd (M1.2.1 7) (an + k) x j = _
    rw [upd_ne _ _ (by omega)]
    exact h3 j hj
  · show upd (M1.2.1 7) (an + k) x (an + j) = _
    by_cases e : j = k
    · rw [e, upd_same, hx]
    · rw [upd_ne _ _ (by omega)]
      exact h4 j (by omega)
theorem Ad.st {M M1 : MS} {St t : Nat → Nat} {on an n : Nat} (h : Ad M M1 an t n) (hS : RSt M St on an) (hn : an + n ≤ 6000) : RSt M1 (stA St an t n) on (an + n) := by
  obtain ⟨h1, h2, h3, h4⟩ := h
  obtain ⟨r1, r2, r3, r4, r5, r6⟩ := hS
  refine ⟨(h1.1 8 (by decide)).trans r1, h2, r3, hn, fun k hk => ?_, fun k hk => ?_⟩
  · rw [h1.2.1 6 (by decide), r5 k hk]
    unfold stA
    rw [if_neg (by omega)]
  · unfold stA
    by_cases e : k < an
    · rw [h3 k e, r6 k e, if_neg (by omega)]
    · have := h4 (k - an) (by omega)
      rw [show an + (k - an) = k by omega] at this
      rw [this, if_pos (by omega)]
      congr 2
      omega
theorem SG_adds {sg tf : Nat → Int32} {St t : Nat → Nat} {on an n : Nat} (h : SG sg St on an) (hon : on ≤ 1600) (ht : ∀ j, j < n → tf j = nn (t j) ∧ 1 ≤ t j ∧ t j ≤ 127) : SG (adds sg an tf n) (stA St an t n) on (an + n) := by
  intro k hk
  unfold adds stA
  by_cases e : 1600 + an ≤ k ∧ k < 1600 + an + n
  · rw [if_pos e, if_pos e]
    exact ht _ (by omega)
  · rw [if_neg e, if_neg e]
    exact h k (by unfold vs at *; omega)
