/-! marks -/
theorem nn_lt_ii {a : Nat} {m : Int} (ha : a < 2147483648) (hb : -2147483648 ≤ m ∧ m < 2147483648) : (nn a < ii m) = ((a : Int) < m) := by rw [← ii_nn, ii_lt (by omega) hb]
theorem ii_lt_nn {a : Nat} {m : Int} (ha : a < 2147483648) (hb : -2147483648 ≤ m ∧ m < 2147483648) : (ii m < nn a) = (m < (a : Int)) := by rw [← ii_nn, ii_lt hb (by omega)]
theorem nn_le_ii {a : Nat} {m : Int} (ha : a < 2147483648) (hb : -2147483648 ≤ m ∧ m < 2147483648) : (nn a ≤ ii m) = ((a : Int) ≤ m) := by rw [← ii_nn, ii_le (by omega) hb]
theorem ii_le_nn {a : Nat} {m : Int} (ha : a < 2147483648) (hb : -2147483648 ≤ m ∧ m < 2147483648) : (ii m ≤ nn a) = (m ≤ (a : Int)) := by rw [← ii_nn, ii_le hb (by omega)]
theorem ii_eq_nn {a : Nat} {m : Int} (ha : a < 2147483648) (hb : -2147483648 ≤ m ∧ m < 2147483648) : (ii m = nn a) = (m = (a : Int)) := by rw [← ii_nn, ii_eq hb (by omega)]
theorem ii_add_nn (a : Nat) (m : Int) : ii m + nn a = ii (m + a) := by rw [← ii_nn, ii_add]
theorem nn_add_ii (a : Nat) (m : Int) : nn a + ii m = ii (a + m) := by rw [← ii_nn, ii_add]
theorem ii_sub_nn (a : Nat) (m : Int) : ii m - nn a = ii (m - a) := by rw [← ii_nn, ii_sub]
theorem nn_ii (k : Nat) : nn k = ii (k : Int) := (ii_nn k).symm
def comeM (p n : Nat) (mk : Nat → Int) (st : Nat → Nat) : Nat → Int := fun i => if (p : Int) < mk i ∨ (mk i = p ∧ st i ≠ 0) then mk i + n else mk i
def goM (p n : Nat) (mk : Nat → Int) : Nat → Int := fun i => if (p : Int) + n ≤ mk i then mk i - n else if (p : Int) < mk i then p else mk i
def movM (p n g : Nat) (mk : Nat → Int) (st : Nat → Nat) : Nat → Int := fun i => if (p : Int) < mk i ∧ mk i < (p : Int) + n then g + mk i - p else if (g : Int) < (if mk i < (p : Int) + n then mk i else mk i - n) ∨ ((if mk i < (p : Int) + n then mk i else mk i - n) = g ∧ st i ≠ 0) then (if mk i < (p : Int) + n then mk i else mk i - n) + n else (if mk i < (p : Int) + n then mk i else mk i - n)
def bdM (mk : Nat → Int) (st : Nat → Nat) (z : Nat) : Prop := ∀ k, k < 8 → -1 ≤ mk k ∧ mk k ≤ z ∧ st k ≤ 1
section Mk
variable {G : zH} {c : Nat → Nat} {i r b sgn p n : Nat} {P : PC} {mk : Nat → Int} {st : Nat → Nat}
theorem mix_step {fm : Nat → Int32} {mk mk' : Nat → Int} {k : Nat} {x : Int32} (h : ∀ j, j < 8 → fm j = ii (if j < k then mk' j else mk j)) (hx : x = ii (mk' k)) : ∀ j, j < 8 → upd fm k x j = ii (if j < k + 1 then mk' j else mk j) := by
  intro j hj
  by_cases e : j = k
  · subst e
    rw [upd_same, hx, if_pos (by omega)]
  · rw [upd_ne _ _ e, h j hj]
    by_cases e2 : j < k
    · rw [if_pos e2, if_pos (by omega)]
    · rw [if_neg e2, if_neg (by omega)]
theorem mix_skip {fm : Nat → Int32} {mk mk' : Nat → Int} {k : Nat} (h : ∀ j, j < 8 → fm j = ii (if j < k then mk' j else mk j)) (hx : mk k = mk' k) : ∀ j, j < 8 → fm j = ii (if j < k + 1 then mk' j else mk j) := by
  intro j hj
  rw [h j hj]
  by_cases e : j = k
  · subst e
    rw [if_neg (by omega), if_pos (by omega), hx]
  · by_cases e2 : j < k
    · rw [if_pos e2, if_pos (by omega)]
    · rw [if_neg e2, if_neg (by omega)]
theorem mix_end {fm : Nat → Int32} {mk mk' : Nat → Int} {k : Nat} (h : ∀ j, j < 8 → fm j = ii (if j < k then mk' j else mk j)) (hk : 8 ≤ k) : ∀ j, j < 8 → fm j = ii (mk' j) := by
  intro j hj
  rw [h j hj, if_pos (by omega)]
theorem mix_at {fm : Nat → Int32} {mk mk' : Nat → Int} {k : Nat} (h : ∀ j, j < 8 → fm j = ii (if j < k then mk' j else mk j)) (hk : k < 8) : fm k = ii (mk k) := by
  rw [h k hk, if_neg (by omega)]
theorem mix_0 {fm : Nat → Int32} {mk mk' : Nat → Int} (h : ∀ j, j < 8 → fm j = ii (mk j)) : ∀ j, j < 8 → fm j = ii (if j < 0 then mk' j else mk j) := by
  intro j hj
  rw [h j hj, if_neg (by omega)]
theorem marksGoOn_b2_sp {hs hl hm ht cap : Nat} {cnt sg : Int32} {fs fl ft : Nat → Int32} {z : Nat} (hb : bdM mk st z) (hz : z ≤ 3000) (hp : p ≤ 3000) (hn : n ≤ 3000) (hft : ∀ j, j < 8 → 0 ≤ mk j → ft j = nn (st j)) : ∀ fu k G fm, k ≤ 8 → 8 - k < fu → LfR G c i r hs hl hm ht cap cnt sg fs fl fm ft → (∀ j, j < 8 → fm j = ii (if j < k then comeM p n mk st j else mk j)) → ok (fX2_marksGoOn_b2 fu G r (nn p) (nn n) (nn k)) fun G' => ∃ fm', LfR G' c i r hs hl hm ht cap cnt sg fs fl fm' ft ∧ (∀ j, j < 8 → fm' j = ii (comeM p n mk st j)) ∧ Up i G c b G' c b := by
  intro fu
  induction fu with
  | zero => intro k G fm _ h; omega
  | succ fu ih =>
    intro k G fm hk hfu h hfm
    unfold fX2_marksGoOn_b2
    by_cases e : 8 ≤ k
    · refine ift (by rw [q8, nn_le (by omega) (by omega)]; exact e) ?_
      exact ok_some ⟨fm, h, mix_end hfm e, Up.refl _ _ _ _⟩
    · refine ifn (by rw [q8, nn_le (by omega) (by omega)]; exact e) ?_
      have hbk := hb k (by omega)
      refine sa1 h.f4 ?_
      refine sa1 (h.rM (k := k) (by omega)) ?_
      rw [mix_at hfm (by omega)]
      have adv : ∀ G' fm', LfR G' c i r hs hl hm ht cap cnt sg fs fl fm' ft → (∀ j, j < 8 → fm' j = ii (if j < k + 1 then comeM p n mk st j else mk j)) → Up i G c b G' c b → ok (fX2_marksGoOn_b47 (fX2_marksGoOn_b2 fu) G' r (nn p) (nn n) (nn k)) fun G' => ∃ fm', LfR G' c i r hs hl hm ht cap cnt sg fs fl fm' ft ∧ (∀ j, j < 8 → fm' j = ii (comeM p n mk st j)) ∧ Up i G c b G' c b := by
        intro G' fm' a1 a2 a3
        unfold fX2_marksGoOn_b47
        rw [q1, nn_add]
        refine zl ?_
        refine ok_imp (ih (k + 1) G' fm' (by omega) (by omega) a1 a2) ?_
        rintro G2 ⟨f2, b1, b2, b3⟩
        exact ⟨f2, b1, b2, a3.trans b3⟩
      have wri : (p : Int) < mk k ∨ (mk k = p ∧ st k ≠ 0) → ok (fX2_marksGoOn_b37 (fX2_marksGoOn_b2 fu) G r (nn p) (nn n) (nn k)) fun G' => ∃ fm', LfR G' c i r hs hl hm ht cap cnt sg fs fl fm' ft ∧ (∀ j, j < 8 → fm' j = ii (comeM p n mk st j)) ∧ Up i G c b G' c b := by
        intro hc
        unfold fX2_marksGoOn_b37
        refine sa1 h.f4 ?_
        refine sa1 (h.rM (k := k) (by omega)) ?_
        rw [mix_at hfm (by omega), ii_add_nn]
        obtain ⟨G1, e1, h1, u1⟩ := h.wM (k := k) (ii (mk k + n)) b (by omega)
        refine sa1 e1 ?_
        refine adv G1 _ h1 (mix_step hfm ?_) u1
        unfold comeM
        rw [if_pos hc]
      by_cases e1 : (p : Int) < mk k
      · refine ift (by rw [nn_lt_ii (by omega) (by omega)]; exact e1) ?_
        exact wri (Or.inl e1)
      · refine ifn (by rw [nn_lt_ii (by omega) (by omega)]; exact e1) ?_
        refine sa1 h.f4 ?_
        refine sa1 (h.rM (k := k) (by omega)) ?_
        rw [mix_at hfm (by omega)]
        by_cases e2 : mk k = p
        · refine ift (by rw [ii_eq_nn (by omega) (by omega)]; exact e2) ?_
          refine sa1 h.f5 ?_
          refine sa1 (h.rT (k := k) (by omega)) ?_
          rw [hft k (by omega) (by omega)]
          by_cases e3 : st k = 0
          · refine ift (by rw [q0, nn_eq (by omega) (by omega)]; exact e3) ?_
            refine adv G fm h (mix_skip hfm ?_) (Up.refl _ _ _ _)
            unfold comeM
            rw [if_neg (by omega)]
          · refine ifn (by rw [q0, nn_eq (by omega) (by omega)]; exact e3) ?_
            exact wri (Or.inr ⟨e2, e3⟩)
        · refine ifn (by rw [ii_eq_nn (by omega) (by omega)]; exact e2) ?_
          refine adv G fm h (mix_skip hfm ?_) (Up.refl _ _ _ _)
          unfold comeM
          rw [if_neg (by omega)]
theorem marksGoOn_sp (h : LfS G c i r b P sgn mk st) {z : Nat} (hb : bdM mk st z) (hz : z ≤ 3000) (hp : p ≤ 3000) (hn : n ≤ 3000) : ok (fX2_marksGoOn G r (nn p) (nn n)) fun G' => LfS G' c i r b P sgn (comeM p n mk st) st ∧ Up i G c b G' c b := by
  obtain ⟨hs, hl, hm, ht, cap, fs, fl, fm, ft, h1, h2, h3, h4⟩ := h
  unfold fX2_marksGoOn
  rw [q0]
  refine ok_imp (marksGoOn_b2_sp (b := b) (n := n) hb hz hp hn (fun j hj => (h3 j hj).2.1) FU 0 G fm (by omega) (by rw [FU_eq]; omega) h1 (mix_0 (fun j hj => (h3 j hj).1))) ?_
  rintro G' ⟨fm', a1, a2, a3⟩
  exact ⟨⟨hs, hl, hm, ht, cap, fs, fl, fm', ft, a1, h2, fun j hj => ⟨a2 j hj, fun h0 => (h3 j hj).2.1 (by have hbj := hb j hj; unfold comeM at h0; omega), (h3 j hj).2.2⟩, h4⟩, a3⟩
theorem marksGoBack_b2_sp {hs hl hm ht cap : Nat} {cnt sg : Int32} {fs fl ft : Nat → Int32} {z : Nat} (hb : bdM mk st z) (hz : z ≤ 3000) (hp : p ≤ 3000) (hn : n ≤ 3000) : ∀ fu k G fm, k ≤ 8 → 8 - k < fu → LfR G c i r hs hl hm ht cap cnt sg fs fl fm ft → (∀ j, j < 8 → fm j = ii (if j < k then goM p n mk j else mk j)) → ok (fX2_marksGoBack_b2 fu G r (nn p) (nn n) (nn k)) fun G' => ∃ fm', LfR G' c i r hs hl hm ht cap cnt sg fs fl fm' ft ∧ (∀ j, j < 8 → fm' j = ii (goM p n mk j)) ∧ Up i G c b G' c b := by
  intro fu
  induction fu with
  | zero => intro k G fm _ h; omega
  | succ fu ih =>
    intro k G fm hk hfu h hfm
    unfold fX2_marksGoBack_b2
    by_cases e : 8 ≤ k
    · refine ift (by rw [q8, nn_le (by omega) (by omega)]; exact e) ?_
      exact ok_some ⟨fm, h, mix_end hfm e, Up.refl _ _ _ _⟩
    · refine ifn (by rw [q8, nn_le (by omega) (by omega)]; exact e) ?_
      have hbk := hb k (by omega)
      refine sa1 h.f4 ?_
      refine sa1 (h.rM (k := k) (by omega)) ?_
      rw [mix_at hfm (by omega)]
      have adv : ∀ G' fm', LfR G' c i r hs hl hm ht cap cnt sg fs fl fm' ft → (∀ j, j < 8 → fm' j = ii (if j < k + 1 then goM p n mk j else mk j)) → Up i G c b G' c b → ok (fX2_marksGoBack_b50 (fX2_marksGoBack_b2 fu) G' r (nn p) (nn n) (nn k)) fun G' => ∃ fm', LfR G' c i r hs hl hm ht cap cnt sg fs fl fm' ft ∧ (∀ j, j < 8 → fm' j = ii (goM p n mk j)) ∧ Up i G c b G' c b := by
        intro G' fm' a1 a2 a3
        unfold fX2_marksGoBack_b50
        rw [q1, nn_add]
        refine zl ?_
        refine ok_imp (ih (k + 1) G' fm' (by omega) (by omega) a1 a2) ?_
        rintro G2 ⟨f2, b1, b2, b3⟩
        exact ⟨f2, b1, b2, a3.trans b3⟩
      rw [nn_add]
      by_cases e1 : mk k < ((p + n : Nat) : Int)
      · refine ift (by rw [ii_lt_nn (by omega) (by omega)]; exact e1) ?_
        refine sa1 h.f4 ?_
        refine sa1 (h.rM (k := k) (by omega)) ?_
        rw [mix_at hfm (by omega)]
        by_cases e2 : mk k ≤ p
        · refine ift (by rw [ii_le_nn (by omega) (by omega)]; exact e2) ?_
          refine adv G fm h (mix_skip hfm ?_) (Up.refl _ _ _ _)
          unfold goM
          rw [if_neg (by omega), if_neg (by omega)]
        · refine ifn (by rw [ii_le_nn (by omega) (by omega)]; exact e2) ?_
          refine sa1 h.f4 ?_
          obtain ⟨G1, e1', h1, u1⟩ := h.wM (k := k) (nn p) b (by omega)
          refine sa1 e1' ?_
          refine adv G1 _ h1 (mix_step hfm ?_) u1
          unfold goM
          rw [if_neg (by omega), if_pos (by omega), ii_nn]
      · refine ifn (by rw [ii_lt_nn (by omega) (by omega)]; exact e1) ?_
        refine sa1 h.f4 ?_
        refine sa1 (h.rM (k := k) (by omega)) ?_
        rw [mix_at hfm (by omega), ii_sub_nn]
        obtain ⟨G1, e1', h1, u1⟩ := h.wM (k := k) (ii (mk k - n)) b (by omega)
        refine sa1 e1' ?_
        refine adv G1 _ h1 (mix_step hfm ?_) u1
        unfold goM
        rw [if_pos (by omega)]
theorem marksGoBack_sp (h : LfS G c i r b P sgn mk st) {z : Nat} (hb : bdM mk st z) (hz : z ≤ 3000) (hp : p ≤ 3000) (hn : n ≤ 3000) : ok (fX2_marksGoBack G r (nn p) (nn n)) fun G' => LfS G' c i r b P sgn (goM p n mk) st ∧ Up i G c b G' c b := by
  obtain ⟨hs, hl, hm, ht, cap, fs, fl, fm, ft, h1, h2, h3, h4⟩ := h
  unfold fX2_marksGoBack
  rw [q0]
  refine ok_imp (marksGoBack_b2_sp (b := b) (n := n) hb hz hp hn FU 0 G fm (by omega) (by rw [FU_eq]; omega) h1 (mix_0 (fun j hj => (h3 j hj).1))) ?_
  rintro G' ⟨fm', a1, a2, a3⟩
  exact ⟨⟨hs, hl, hm, ht, cap, fs, fl, fm', ft, a1, h2, fun j hj => ⟨a2 j hj, fun h0 => (h3 j hj).2.1 (by have hbj := hb j hj; unfold goM at h0; omega), (h3 j hj).2.2⟩, h4⟩, a3⟩
theorem marksMove_b3_sp {hs hl hm ht cap g : Nat} {cnt sg : Int32} {fs fl ft : Nat → Int32} {z : Nat} (hb : bdM mk st z) (hz : z ≤ 3000) (hp : p ≤ 3000) (hn : n ≤ 3000) (hg : g ≤ 3000) (hft : ∀ j, j < 8 → 0 ≤ mk j → ft j = nn (st j)) : ∀ fu k G fm, k ≤ 8 → 8 - k < fu → LfR G c i r hs hl hm ht cap cnt sg fs fl fm ft → (∀ j, j < 8 → fm j = ii (if j < k then movM p n g mk st j else mk j)) → ok (fX2_marksMove_b3 fu G r (nn p) (nn n) (nn g) (nn k)) fun G' => ∃ fm', LfR G' c i r hs hl hm ht cap cnt sg fs fl fm' ft ∧ (∀ j, j < 8 → fm' j = ii (movM p n g mk st j)) ∧ Up i G c b G' c b := by
  intro fu
  induction fu with
  | zero => intro k G fm _ h; omega
  | succ fu ih =>
    intro k G fm hk hfu h hfm
    unfold fX2_marksMove_b3
    by_cases e : 8 ≤ k
    · refine ift (by rw [q8, nn_le (by omega) (by omega)]; exact e) ?_
      exact ok_some ⟨fm, h, mix_end hfm e, Up.refl _ _ _ _⟩
    · refine ifn (by rw [q8, nn_le (by omega) (by omega)]; exact e) ?_
      have hbk := hb k (by omega)
      refine sa1 h.f4 ?_
      refine sa1 (h.rM (k := k) (by omega)) ?_
      rw [mix_at hfm (by omega)]
      have wri : ∀ x, x = ii (movM p n g mk st k) → ok (ob1 (aW G 0 hm (nn k) x) fun G1 => fX2_marksMove_b106 (fX2_marksMove_b3 fu) G1 r (nn p) (nn n) (nn g) (nn k)) fun G' => ∃ fm', LfR G' c i r hs hl hm ht cap cnt sg fs fl fm' ft ∧ (∀ j, j < 8 → fm' j = ii (movM p n g mk st j)) ∧ Up i G c b G' c b := by
        intro x hx
        obtain ⟨G1, e1', h1, u1⟩ := h.wM (k := k) x b (by omega)
        refine sa1 e1' ?_
        unfold fX2_marksMove_b106
        rw [q1, nn_add]
        refine zl ?_
        refine ok_imp (ih (k + 1) G1 _ (by omega) (by omega) h1 (mix_step hfm hx)) ?_
        rintro G2 ⟨f2, b1, b2, b3⟩
        exact ⟨f2, b1, b2, u1.trans b3⟩
      have h66 : ∀ y : Int, -1 ≤ y → y ≤ 3000 → ¬ ((p : Int) < mk k ∧ mk k < (p : Int) + n) → y = (if mk k < (p : Int) + n then mk k else mk k - n) → ok (fX2_marksMove_b66 (fX2_marksMove_b3 fu) G r (nn p) (nn n) (nn g) (nn k) (ii y)) fun G' => ∃ fm', LfR G' c i r hs hl hm ht cap cnt sg fs fl fm' ft ∧ (∀ j, j < 8 → fm' j = ii (movM p n g mk st j)) ∧ Up i G c b G' c b := by
        intro y y1 y2 hno hy
        unfold fX2_marksMove_b66
        refine sa1 h.f4 ?_
        have r96 : (g : Int) < y ∨ (y = g ∧ st k ≠ 0) → ok (fX2_marksMove_b96 (fX2_marksMove_b3 fu) G r (nn p) (nn n) (nn g) (nn k) (ii y) (nn k) hm) fun G' => ∃ fm', LfR G' c i r hs hl hm ht cap cnt sg fs fl fm' ft ∧ (∀ j, j < 8 → fm' j = ii (movM p n g mk st j)) ∧ Up i G c b G' c b := by
          intro hc
          unfold fX2_marksMove_b96 fX2_marksMove_b105
          refine wri _ ?_
          rw [ii_add_nn]
          unfold movM
          rw [if_neg hno, ← hy, if_pos hc]
        have r103 : ¬ ((g : Int) < y ∨ (y = g ∧ st k ≠ 0)) → ok (fX2_marksMove_b103 (fX2_marksMove_b3 fu) G r (nn p) (nn n) (nn g) (nn k) (ii y) (nn k) hm) fun G' => ∃ fm', LfR G' c i r hs hl hm ht cap cnt sg fs fl fm' ft ∧ (∀ j, j < 8 → fm' j = ii (movM p n g mk st j)) ∧ Up i G c b G' c b := by
          intro hc
          unfold fX2_marksMove_b103 fX2_marksMove_b105
          refine wri _ ?_
          unfold movM
          rw [if_neg hno, ← hy, if_neg hc]
        by_cases e1 : (g : Int) < y
        · refine ift (by rw [nn_lt_ii (by omega) (by omega)]; exact e1) ?_
          exact r96 (Or.inl e1)
        · refine ifn (by rw [nn_lt_ii (by omega) (by omega)]; exact e1) ?_
          by_cases e2 : y = g
          · refine ift (by rw [ii_eq_nn (by omega) (by omega)]; exact e2) ?_
            refine sa1 h.f5 ?_
            refine sa1 (h.rT (k := k) (by omega)) ?_
            rw [hft k (by omega) (by split at hy <;> omega)]
            by_cases e3 : st k = 0
            · refine ift (by rw [q0, nn_eq (by omega) (by omega)]; exact e3) ?_
              exact r103 (by omega)
            · refine ifn (by rw [q0, nn_eq (by omega) (by omega)]; exact e3) ?_
              exact r96 (by omega)
          · refine ifn (by rw [ii_eq_nn (by omega) (by omega)]; exact e2) ?_
            exact r103 (by omega)
      have h49 : ¬ ((p : Int) < mk k ∧ mk k < (p : Int) + n) → ok (fX2_marksMove_b49 (fX2_marksMove_b3 fu) G r (nn p) (nn n) (nn g) (nn k) (ii (mk k))) fun G' => ∃ fm', LfR G' c i r hs hl hm ht cap cnt sg fs fl fm' ft ∧ (∀ j, j < 8 → fm' j = ii (movM p n g mk st j)) ∧ Up i G c b G' c b := by
        intro hno
        unfold fX2_marksMove_b49
        rw [nn_add]
        by_cases e1 : mk k < ((p + n : Nat) : Int)
        · refine ift (by rw [ii_lt_nn (by omega) (by omega)]; exact e1) ?_
          exact h66 (mk k) (by omega) (by omega) hno (by rw [if_pos (by omega)])
        · refine ifn (by rw [ii_lt_nn (by omega) (by omega)]; exact e1) ?_
          rw [ii_sub_nn]
          exact h66 (mk k - n) (by omega) (by omega) hno (by rw [if_neg (by omega)])
      by_cases e1 : mk k ≤ p
      · refine ift (by rw [ii_le_nn (by omega) (by omega)]; exact e1) ?_
        exact h49 (by omega)
      · refine ifn (by rw [ii_le_nn (by omega) (by omega)]; exact e1) ?_
        rw [nn_add]
        by_cases e2 : ((p + n : Nat) : Int) ≤ mk k
        · refine ift (by rw [nn_le_ii (by omega) (by omega)]; exact e2) ?_
          exact h49 (by omega)
        · refine ifn (by rw [nn_le_ii (by omega) (by omega)]; exact e2) ?_
          refine sa1 h.f4 ?_
          refine wri _ ?_
          rw [nn_add_ii, ii_sub_nn]
          unfold movM
          rw [if_pos (by omega)]
theorem marksMove_sp (h : LfS G c i r b P sgn mk st) {z g : Nat} (hb : bdM mk st z) (hz : z ≤ 3000) (hp : p ≤ 3000) (hn : n ≤ 3000) (hg : g ≤ 3000) : ok (fX2_marksMove G r (nn p) (nn n) (nn g)) fun G' => LfS G' c i r b P sgn (movM p n g mk st) st ∧ Up i G c b G' c b := by
  obtain ⟨hs, hl, hm, ht, cap, fs, fl, fm, ft, h1, h2, h3, h4⟩ := h
  unfold fX2_marksMove
  rw [q0]
  refine ok_imp (marksMove_b3_sp (b := b) (n := n) hb hz hp hn hg (fun j hj => (h3 j hj).2.1) FU 0 G fm (by omega) (by rw [FU_eq]; omega) h1 (mix_0 (fun j hj => (h3 j hj).1))) ?_
  rintro G' ⟨fm', a1, a2, a3⟩
  exact ⟨⟨hs, hl, hm, ht, cap, fs, fl, fm', ft, a1, h2, fun j hj => ⟨a2 j hj, fun h0 => (h3 j hj).2.1 (by have hbj := hb j hj; unfold movM at h0; omega), (h3 j hj).2.2⟩, h4⟩, a3⟩
end Mk
