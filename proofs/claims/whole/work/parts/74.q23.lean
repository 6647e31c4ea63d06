/-! before: what has held so far -/
def mt (X Y : Nat → Nat) (e l : Nat) : Prop := l ≤ e ∧ ∀ i, i < l → Y (e - l + i) = X i
def bord (X : Nat → Nat) (i l : Nat) : Prop := l < i ∧ mt X X i l ∧ ∀ l', l' < i → mt X X i l' → l' ≤ l
theorem mt_0 (X Y : Nat → Nat) (e : Nat) : mt X Y e 0 := ⟨Nat.zero_le _, fun i hi => by omega⟩
theorem mt_tr {X Y : Nat → Nat} {e l0 l : Nat} (h0 : mt X Y e l0) (h : mt X Y e l) (hl : l ≤ l0) : mt X X l0 l := by
  refine ⟨hl, fun i hi => ?_⟩
  have h1 := h0.2 (l0 - l + i) (by omega)
  have h2 := h.2 i hi
  have := h0.1
  rw [show e - l0 + (l0 - l + i) = e - l + i by omega] at h1
  rw [← h1, h2]
theorem mt_of {X Y : Nat → Nat} {e l0 l : Nat} (h0 : mt X Y e l0) (h : mt X X l0 l) : mt X Y e l := by
  have a1 := h0.1
  have a2 := h.1
  refine ⟨by omega, fun i hi => ?_⟩
  have h1 := h0.2 (l0 - l + i) (by omega)
  rw [show e - l0 + (l0 - l + i) = e - l + i by omega] at h1
  rw [h1]
  exact h.2 i hi
theorem mt_s {X Y : Nat → Nat} {e l : Nat} : mt X Y (e + 1) (l + 1) ↔ mt X Y e l ∧ Y e = X l := by
  constructor
  · rintro ⟨h1, h2⟩
    refine ⟨⟨by omega, fun i hi => ?_⟩, ?_⟩
    · have := h2 i (by omega)
      rw [show e + 1 - (l + 1) + i = e - l + i by omega] at this
      exact this
    · have := h2 l (by omega)
      rw [show e + 1 - (l + 1) + l = e by omega] at this
      exact this
  · rintro ⟨⟨h1, h2⟩, h3⟩
    refine ⟨by omega, fun i hi => ?_⟩
    rw [show e + 1 - (l + 1) + i = e - l + i by omega]
    by_cases e1 : i = l
    · subst e1
      rw [show e - i + i = e by omega]
      exact h3
    · exact h2 i (by omega)
theorem hold6 {G : zH} {n p mm e : Nat} {t w X Y : Nat → Nat} {sc : Nat → Int32} (hPV : PV G n t w) (hsc : G[26]? = some (.inl (0, (6000, .inl sc)))) (hX : ∀ i, p + i < n → X i = t (p + i)) (hFA : ∀ i, 1 ≤ i → i ≤ mm → ∃ l, sc (i - 1) = nn l ∧ bord X i l) (hL : p + mm < n) (hY : Y e ≤ 127) : ∀ fu l0, l0 ≤ mm → l0 < fu → mt X Y e l0 → (∀ l, l ≤ mm → mt X Y e l → l ≤ l0 ∨ X l ≠ Y e) → ∃ R, fX3_holdOn_b9 G fu 20 (nn p) (nn (Y e)) 26 (nn l0) = some (nn R) ∧ R ≤ mm + 1 ∧ mt X Y (e + 1) R ∧ ∀ l, l ≤ mm → mt X Y (e + 1) (l + 1) → l + 1 ≤ R := by
  obtain ⟨v1, v2, v3, v4, v5, v6, v7⟩ := hPV
  have b45 : ∀ l0, l0 ≤ mm → mt X Y e l0 → (∀ l, l ≤ mm → mt X Y e l → l ≤ l0 ∨ X l ≠ Y e) → (l0 = 0 ∨ X l0 = Y e) → ∃ R, fX3_holdOn_b45 G 20 (nn p) (nn (Y e)) (nn l0) = some (nn R) ∧ R ≤ mm + 1 ∧ mt X Y (e + 1) R ∧ ∀ l, l ≤ mm → mt X Y (e + 1) (l + 1) → l + 1 ≤ R := by
    intro l0 hl hmt hmx hor
    have h7 := v7 (p + l0) (by omega)
    have hx := hX l0 (by omega)
    unfold fX3_holdOn_b45
    rw [v1, ob1_some, nn_add, v3 _ (by omega), ob1_some, if_eq (by omega) (by omega)]
    by_cases e1 : t (p + l0) = Y e
    · rw [if_pos e1, q1, nn_add]
      refine ⟨l0 + 1, rfl, by omega, mt_s.mpr ⟨hmt, by omega⟩, fun l h1 h2 => ?_⟩
      obtain ⟨h3, h4⟩ := mt_s.mp h2
      rcases hmx l h1 h3 with h5 | h5
      · omega
      · exact absurd h4.symm h5
    · rw [if_neg e1]
      have hl0 : l0 = 0 := by omega
      subst hl0
      refine ⟨0, rfl, by omega, mt_0 _ _ _, fun l h1 h2 => ?_⟩
      obtain ⟨h3, h4⟩ := mt_s.mp h2
      rcases hmx l h1 h3 with h5 | h5
      · have : l = 0 := by omega
        subst this
        omega
      · exact absurd h4.symm h5
  intro fu
  induction fu with
  | zero => intro l0 _ h; omega
  | succ fu ih =>
    intro l0 hl hfu hmt hmx
    unfold fX3_holdOn_b9
    rw [q0, if_le (by omega) (by omega)]
    by_cases e0 : l0 ≤ 0
    · rw [if_pos e0]
      exact b45 l0 hl hmt hmx (Or.inl (by omega))
    · have h7 := v7 (p + l0) (by omega)
      have hx := hX l0 (by omega)
      rw [if_neg e0, v1, ob1_some, nn_add, v3 _ (by omega), ob1_some, if_eq (by omega) (by omega)]
      by_cases e1 : t (p + l0) = Y e
      · rw [if_pos e1]
        exact b45 l0 hl hmt hmx (Or.inr (by omega))
      · obtain ⟨f, hf1, hf2⟩ := hFA l0 (by omega) hl
        have hfl := hf2.1
        rw [if_neg e1, q1, nn_sub (by omega), aR_at hsc (by omega) (by omega), ob1_some, hf1, if_lt (by omega) (by omega), if_neg (by omega), zlt]
        refine ih f (by omega) (by omega) (mt_of hmt hf2.2.1) (fun l h1 h2 => ?_)
        by_cases e2 : l ≤ f
        · exact Or.inl e2
        · right
          by_cases e3 : l < l0
          · have := hf2.2.2 l e3 (mt_tr hmt h2 (by omega))
            omega
          · by_cases e4 : l = l0
            · subst e4
              omega
            · rcases hmx l h1 h2 with h5 | h5
              · omega
              · exact h5
theorem holdOn6 {G : zH} {n p mm e : Nat} {t w X Y : Nat → Nat} {sc : Nat → Int32} (hPV : PV G n t w) (hsc : G[26]? = some (.inl (0, (6000, .inl sc)))) (hX : ∀ i, p + i < n → X i = t (p + i)) (hFA : ∀ i, 1 ≤ i → i ≤ mm → ∃ l, sc (i - 1) = nn l ∧ bord X i l) (hL : p + mm < n) (hY : Y e ≤ 127) (hmt : mt X Y e mm) : ∃ R, fX3_holdOn G 20 (nn p) (nn mm) (nn (Y e)) 26 = some (nn R) ∧ R ≤ mm + 1 ∧ mt X Y (e + 1) R ∧ ∀ l, l ≤ mm → mt X Y (e + 1) (l + 1) → l + 1 ≤ R := by
  have hn := hPV.2.2.2.2.2.1
  unfold fX3_holdOn
  rw [aL_at hsc, ob1_some, if_lt (by omega) (by omega), if_neg (by omega), zlt]
  exact hold6 hPV hsc hX hFA hL hY FU mm (Nat.le_refl _) (by rw [FU_eq]; omega) hmt (fun l h1 _ => Or.inl h1)
theorem fill6 {G0 : zH} {c0 c1 b1 : Nat → Nat} {N p n : Nat} {a : TA} {ro : TR} {st : TS} {hi : TH} {ke : TK} {pg qg : TP} {W : Nat → LVa} {t w : Nat → Nat} (hpv : ∀ G sc, Cl G c1 b1 N a ro st hi ke pg qg sc W → PV G n t w) (hn : n ≤ 3000) : ∀ fu j cur G sc, p + j ≤ n → n - (p + j) < fu → (j = 0 → cur = 0) → (1 ≤ j → bord (fun i => t (p + i)) j cur) → (∀ i, 1 ≤ i → i ≤ j → ∃ l, sc (i - 1) = nn l ∧ bord (fun i => t (p + i)) i l) → Cl G c1 b1 N a ro st hi ke pg qg sc W → Fo G0 c0 G c1 → ok (fX3_fillFallbacks_b5 fu G 20 (nn p) 26 (nn cur) (nn j)) fun G' => ∃ sc', (∀ i, 1 ≤ i → p + i ≤ n → ∃ l, sc' (i - 1) = nn l ∧ bord (fun i => t (p + i)) i l) ∧ Cl G' c1 b1 N a ro st hi ke pg qg sc' W ∧ Fo G0 c0 G' c1 := by
  intro fu
  induction fu with
  | zero => intro j cur G sc _ h; omega
  | succ fu ih =>
    intro j cur G sc hj hfu hc0 hc1 hFA h hf
    have hPV := hpv G sc h
    have b44 : ∀ R, bord (fun i => t (p + i)) (j + 1) R → p + j < n → ok (fX3_fillFallbacks_b44 (fX3_fillFallbacks_b5 fu) G 20 (nn p) 26 (nn R) (nn j)) fun G' => ∃ sc', (∀ i, 1 ≤ i → p + i ≤ n → ∃ l, sc' (i - 1) = nn l ∧ bord (fun i => t (p + i)) i l) ∧ Cl G' c1 b1 N a ro st hi ke pg qg sc' W ∧ Fo G0 c0 G' c1 := by
      intro R hR hjn
      unfold fX3_fillFallbacks_b44
      refine sa1 (aW_at h.1.g26 (by omega) (by omega)) ?_
      have x1 := h.1.u26 (upd sc j (nn R))
      have u1 : Up 0 G c1 0 (G.set 26 (.inl (0, (6000, .inl (upd sc j (nn R)))))) c1 0 := Up.set h.1.g26 rfl (h.2.2.1 26 (by decide))
      rw [q1, nn_add]
      refine zl ?_
      refine ih (j + 1) R _ _ (by omega) (by omega) (by omega) (fun _ => hR) (fun i h1 h2 => ?_) (h.fx x1 u1 rfl rfl) (hf.trans (u1.1.fo (by omega)))
      by_cases ei : i = j + 1
      · subst ei
        rw [Nat.add_sub_cancel, upd_same]
        exact ⟨R, rfl, hR⟩
      · rw [upd_ne _ _ (show i - 1 ≠ j by omega)]
        exact hFA i h1 (by omega)
    unfold fX3_fillFallbacks_b5
    refine sa1 hPV.2.1 ?_
    rw [nn_add]
    by_cases e : n ≤ p + j
    · refine ift (by rw [nn_le (by omega) (by omega)]; exact e) ?_
      exact ok_some ⟨sc, fun i h1 h2 => hFA i h1 (by omega), h, hf⟩
    · refine ifn (by rw [nn_le (by omega) (by omega)]; exact e) ?_
      refine sa1 (aL_at h.1.g26) ?_
      refine ifn (by rw [nn_le (by omega) (by omega)]; omega) ?_
      by_cases e0 : j = 0
      · refine ift (by rw [e0]; decide) ?_
        refine b44 cur ?_ (by omega)
        have := hc0 e0
        subst this
        subst e0
        exact ⟨by omega, mt_0 _ _ _, fun l' h1 _ => by omega⟩
      · refine ifn (by rw [q0, nn_le (by omega) (by omega)]; omega) ?_
        refine sa1 hPV.1 ?_
        refine sa1 (hPV.2.2.1 _ (by omega)) ?_
        refine sa1 hPV.1 ?_
        have hb := hc1 (by omega)
        have hb1 := hb.1
        obtain ⟨R, r1, r2, r3, r4⟩ := holdOn6 (e := j) (Y := fun i => t (p + i)) hPV h.1.g26 (X := fun i => t (p + i)) (fun i _ => rfl) (mm := cur) (fun i h1 h2 => hFA i h1 (by omega)) (by omega) (by show t (p + j) ≤ 127; have := hPV.2.2.2.2.2.2 (p + j) (by omega); omega) hb.2.1
        refine sa1 r1 ?_
        refine b44 R ⟨by omega, r3, fun l' h1 h2 => ?_⟩ (by omega)
        cases l' with
        | zero => omega
        | succ l => exact r4 l (hb.2.2 l (by omega) (mt_s.mp h2).1) h2
