/-! opens -/
theorem LfS.free {G : zH} {c : Nat → Nat} {i r b sgn : Nat} {P : PC} {st : Nat → Nat} (h : LfS G c i r b P sgn (fun _ => -1) st) (st' : Nat → Nat) : LfS G c i r b P sgn (fun _ => -1) st' := by
  obtain ⟨hs, hl, hm, ht, cap, fs, fl, fm, ft, h1, h2, h3, h4⟩ := h
  exact ⟨hs, hl, hm, ht, cap, fs, fl, fm, ft, h1, h2, fun k hk => ⟨(h3 k hk).1, fun h0 => absurd h0 (by show ¬ (0 : Int) ≤ -1; decide), (h3 k hk).2.2⟩, h4⟩
def oneP (n : Nat) : PC := if n = 0 then [] else [(0, n)]
theorem sz_oneP (n : Nat) : sz (oneP n) = n := by
  unfold oneP
  by_cases e : n = 0
  · rw [if_pos e, e]
    rfl
  · rw [if_neg e, sz_cons, sz_nil, Nat.add_zero]
theorem ok_oneP {n : Nat} : okP n 0 (oneP n) := by
  unfold oneP
  by_cases e : n = 0
  · rw [if_pos e]
    exact okP_nil
  · rw [if_neg e]
    refine okP_cons.mpr ⟨?_, okP_nil⟩
    unfold okQ
    show 1 ≤ n ∧ (0 + n ≤ n ∨ 1600 ≤ 0 ∧ 0 + n ≤ 1600 + 0)
    omega
theorem at_oneP {n p : Nat} (hp : p < n) : srcAt (oneP n) p = p ∧ bgAt (oneP n) p = if p = 0 then 1 else 0 := by
  unfold oneP
  rw [if_neg (by omega)]
  simp only [srcAt, bgAt]
  rw [if_pos hp, if_pos hp, Nat.zero_add]
  exact ⟨rfl, rfl⟩
theorem cod_oneP {n p : Nat} (hp : p < n) (hn : n ≤ 1600) : cod (oneP n) p = 2 * p + if p = 0 then 1 else 0 := by
  unfold cod pl
  rw [(at_oneP hp).1, (at_oneP hp).2, if_pos (by omega)]
theorem coded0 {k w : Nat} (hw : w ≤ 1) : fX7_coded (nn 0) (nn k) (nn w) = some (nn (2 * k + w)) := by
  unfold fX7_coded
  rw [flag_nn hw, ob1_some, q2, q8192, nn_mul, nn_add, nn_mul, nn_add, Nat.mul_zero, Nat.zero_add]
theorem nz_nn {a : Nat} (h : 1 ≤ a) (ha : a < 2147483648) : nz (nn a) = some () := by
  unfold nz
  rw [if_neg (by rw [q0, nn_eq ha (by omega)]; omega)]
theorem mod_nn {a b : Nat} (ha : a < 2147483648) (hb : b < 2147483648) : nn a - nn a / nn b * nn b = nn (a % b) := by
  have hd := Nat.div_mul_le_self a b
  rw [nn_div ha hb, nn_mul, nn_sub hd]
  congr 1
  have := Nat.div_add_mod a b
  rw [Nat.mul_comm] at this
  omega
theorem unsets7 {M : MS} : ∃ M1, fX7_unsets M = some M1 ∧ (∀ k, k < 8 → M1.2.1 12 k = ii (-1) ∧ M1.2.1 13 k = nn 0) ∧ M1.1 = M.1 ∧ (∀ j, j ≠ 12 → j ≠ 13 → M1.2.1 j = M.2.1 j) ∧ M1.2.2 = M.2.2 := by
  have key : ∀ fu k M', k ≤ 8 → 8 - k < fu → (∀ j, j < k → M'.2.1 12 j = ii (-1) ∧ M'.2.1 13 j = nn 0) → M'.1 = M.1 → (∀ j, j ≠ 12 → j ≠ 13 → M'.2.1 j = M.2.1 j) → M'.2.2 = M.2.2 → ∃ M1, fX7_unsets_b2 fu M' (nn k) = some M1 ∧ (∀ k, k < 8 → M1.2.1 12 k = ii (-1) ∧ M1.2.1 13 k = nn 0) ∧ M1.1 = M.1 ∧ (∀ j, j ≠ 12 → j ≠ 13 → M1.2.1 j = M.2.1 j) ∧ M1.2.2 = M.2.2 := by
    intro fu
    induction fu with
    | zero => intro k M' _ h; omega
    | succ fu ih =>
      intro k M' hk hfu h1 h2 h3 h4
      unfold fX7_unsets_b2
      rw [q8, if_le (by omega) (by omega)]
      by_cases e : 8 ≤ k
      · rw [if_pos e]
        exact ⟨M', rfl, fun j hj => h1 j (by omega), h2, h3, h4⟩
      · rw [if_neg e, wr_nn (show k < 8 by omega) (by omega), ob1_some, wr_nn (show k < 8 by omega) (by omega), ob1_some, nn_tn (by omega), q1, nn_add, zlt]
        refine ih (k + 1) _ (by omega) (by omega) (fun j hj => ?_) h2 (fun j a b => ?_) h4
        · show upd (M'.2.1 12) k (-nn 1) j = _ ∧ upd (M'.2.1 13) k 0 j = _
          by_cases ej : j = k
          · rw [ej, upd_same, upd_same]
            exact ⟨rfl, rfl⟩
          · rw [upd_ne _ _ ej, upd_ne _ _ ej]
            exact h1 j (by omega)
        · show va_up (va_up M'.2.1 12 _) 13 _ j = _
          exact ((if_neg b).trans (if_neg a)).trans (h3 j a b)
  unfold fX7_unsets
  rw [q0]
  exact key FU 0 M (by omega) (by rw [FU_eq]; omega) (fun j hj => by omega) rfl (fun _ _ _ => rfl) rfl
theorem open134 {A B : zH} {M : MS} : ∃ M1, fX7_opens_b134 A FU M B (nn 0) = some (M.1 11, M1, B) ∧ (∀ j, j < 3 → M1.2.2.2 22 j = none) ∧ M1.1 = M.1 ∧ M1.2.1 = M.2.1 ∧ M1.2.2.1 = M.2.2.1 := by
  have key : ∀ fu k M', k ≤ 3 → 3 - k < fu → (∀ j, j < k → M'.2.2.2 22 j = none) → M'.1 = M.1 → M'.2.1 = M.2.1 → M'.2.2.1 = M.2.2.1 → ∃ M1, fX7_opens_b134 A fu M' B (nn k) = some (M.1 11, M1, B) ∧ (∀ j, j < 3 → M1.2.2.2 22 j = none) ∧ M1.1 = M.1 ∧ M1.2.1 = M.2.1 ∧ M1.2.2.1 = M.2.2.1 := by
    intro fu
    induction fu with
    | zero => intro k M' _ h; omega
    | succ fu ih =>
      intro k M' hk hfu h1 h2 h3 h4
      unfold fX7_opens_b134
      rw [q3, if_le (by omega) (by omega)]
      by_cases e : 3 ≤ k
      · rw [if_pos e]
        unfold fX7_opens_b152
        exact ⟨M', by rw [h2], fun j hj => h1 j (by omega), h2, h3, h4⟩
      · rw [if_neg e, wr_nn (show k < 3 by omega) (by omega), ob1_some, nn_tn (by omega), q1, nn_add, zlt]
        refine ih (k + 1) _ (by omega) (by omega) (fun j hj => ?_) h2 h3 h4
        show va_up (M'.2.2.2 22) k none j = none
        by_cases ej : j = k
        · rw [ej, va_up_same]
        · rw [show ∀ y, va_up (M'.2.2.2 22) k y j = M'.2.2.2 22 j from fun y => if_neg ej]
          exact h1 j (by omega)
  exact key FU 0 M (by omega) (by rw [FU_eq]; omega) (fun j hj => by omega) rfl rfl rfl
theorem open53 {A B : zH} {M : MS} {T : Nat → Nat} {m t : Nat} (h5 : M.1 5 = nn m) (hT : ∀ i, i < 80 → M.2.1 3 i = nn (T i)) (hm : m ≤ 80) (ht : t ≤ 20) : ∃ M1, fX7_opens_b53 A FU M B (nn t) (nn 0) = fX7_opens_b106 A M1 B (nn t) ∧ (∀ j, j < t * m → M1.2.1 6 j = nn (T (j % m)) ∧ M1.2.1 10 j = nn (2 * j + if j = 0 then 1 else 0)) ∧ M1.1 = M.1 ∧ (∀ j, j ≠ 6 → j ≠ 10 → M1.2.1 j = M.2.1 j) ∧ M1.2.2 = M.2.2 := by
  have htm : t * m ≤ 1600 := Nat.le_trans (Nat.mul_le_mul ht hm) (by decide)
  have key : ∀ fu k M', k ≤ t * m → t * m - k < fu → (∀ j, j < k → M'.2.1 6 j = nn (T (j % m)) ∧ M'.2.1 10 j = nn (2 * j + if j = 0 then 1 else 0)) → M'.1 = M.1 → (∀ j, j ≠ 6 → j ≠ 10 → M'.2.1 j = M.2.1 j) → M'.2.2 = M.2.2 → ∃ M1, fX7_opens_b53 A fu M' B (nn t) (nn k) = fX7_opens_b106 A M1 B (nn t) ∧ (∀ j, j < t * m → M1.2.1 6 j = nn (T (j % m)) ∧ M1.2.1 10 j = nn (2 * j + if j = 0 then 1 else 0)) ∧ M1.1 = M.1 ∧ (∀ j, j ≠ 6 → j ≠ 10 → M1.2.1 j = M.2.1 j) ∧ M1.2.2 = M.2.2 := by
    intro fu
    induction fu with
    | zero => intro k M' _ h; omega
    | succ fu ih =>
      intro k M' hk hfu h1 h2 h3 h4
      have h5' : M'.1 5 = nn m := by rw [h2]; exact h5
      unfold fX7_opens_b53
      rw [h5', nn_mul, if_le (by omega) (by omega)]
      by_cases e : t * m ≤ k
      · rw [if_pos e]
        exact ⟨M', rfl, fun j hj => h1 j (by omega), h2, h3, h4⟩
      · have hm1 : 1 ≤ m := by
          by_cases e0 : m = 0
          · rw [e0, Nat.mul_zero] at e
            omega
          · omega
        have hmod := Nat.mod_lt k (show 0 < m by omega)
        rw [if_neg e, nz_nn hm1 (by omega), ob1_some, mod_nn (by omega) (by omega), rd_nn (show k % m < 80 by omega) (by omega), ob1_some, h3 3 (by decide) (by decide), hT _ (by omega), wr_nn (show k < 1600 by omega) (by omega), ob1_some, nn_tn (by omega)]
        have step : ∀ w, w ≤ 1 → w = (if k = 0 then 1 else 0) → ∃ M1, fX7_opens_b96 A (fX7_opens_b53 A fu) (mA M' 6 (upd (M'.2.1 6) k (nn (T (k % m))))) B (nn t) (nn k) (nn w) (nn k) 0 (nn k) = fX7_opens_b106 A M1 B (nn t) ∧ (∀ j, j < t * m → M1.2.1 6 j = nn (T (j % m)) ∧ M1.2.1 10 j = nn (2 * j + if j = 0 then 1 else 0)) ∧ M1.1 = M.1 ∧ (∀ j, j ≠ 6 → j ≠ 10 → M1.2.1 j = M.2.1 j) ∧ M1.2.2 = M.2.2 := by
          intro w hw1 hw
          unfold fX7_opens_b96
          rw [q0, coded0 hw1, ob1_some, wr_nn (show k < 3000 by omega) (by omega), ob1_some, nn_tn (by omega), q1, nn_add, zlt]
          refine ih (k + 1) _ (by omega) (by omega) (fun j hj => ?_) h2 (fun j a b => ?_) h4
          · show upd (M'.2.1 6) k _ j = _ ∧ upd (M'.2.1 10) k _ j = _
            by_cases ej : j = k
            · rw [ej, upd_same, upd_same, hw]
              exact ⟨rfl, rfl⟩
            · rw [upd_ne _ _ ej, upd_ne _ _ ej]
              exact h1 j (by omega)
          · show va_up (va_up M'.2.1 6 _) 10 _ j = _
            exact ((if_neg b).trans (if_neg a)).trans (h3 j a b)
        by_cases e1 : k = 0
        · rw [if_pos (show nn k = 0 by rw [e1]; rfl)]
          exact step 1 (by omega) (by rw [if_pos e1])
        · rw [if_neg (show ¬ nn k = 0 by rw [q0, nn_eq (by omega) (by omega)]; exact e1)]
          exact step 0 (by omega) (by rw [if_neg e1])
  exact key FU 0 M (by omega) (by rw [FU_eq]; omega) (fun j hj => by omega) rfl (fun _ _ _ => rfl) rfl
theorem open84 {G G0 : zH} {c c0 bu : Nat → Nat} {n s u f r : Nat} {a : TA} {ro : TR} {st : TS} {lv : Nat → Option Nat} {ke : TK} {pg qg : TP} {sc : Nat → Int32} {W : Nat → LVa} (h : Cl G c bu n a ro st (s, u, f, lv) ke pg qg sc W) (hs : s < 31) (hr : lv s = some r) (hf : Fo G0 c0 G c) : ok (fX6_opens_b84 G 0 r) fun z => z.1 = nn (sz (W s).1) ∧ Cl z.2 c bu n (a.1, a.2.1, 1, -1) ro st (s, 0, 0, lv) (ke.1, upd (upd (upd ke.2 0 (nn 0)) 1 (nn 0)) 2 (nn 0)) pg qg sc W ∧ Fo G0 c0 z.2 c := by
  have step : ∀ (ke : TK) (G : zH) (fu k : Nat) (Q : Int32 × zH → Prop), Cl G c bu n a ro st (s, u, f, lv) ke pg qg sc W → Fo G0 c0 G c → k < 3 → (∀ G1, Cl G1 c bu n a ro st (s, u, f, lv) (ke.1, upd ke.2 k (nn 0)) pg qg sc W → Fo G0 c0 G1 c → ok (fX6_opens_b87 fu G1 0 r (nn (k + 1))) Q) → ok (fX6_opens_b87 (fu + 1) G 0 r (nn k)) Q := by
    intro ke G fu k Q h hf hk H
    unfold fX6_opens_b87
    refine ifn (by rw [q3, nn_le (by omega) (by omega)]; omega) ?_
    refine sa1 h.1.r0_6 ?_
    refine sa1 (aW_at h.1.g9 hk (by omega)) ?_
    rw [q1, nn_add]
    refine zl ?_
    have u3 : Up 0 G c 0 (G.set 9 (.inl (3, (3, .inl (upd ke.2 k (nn 0)))))) c 0 := Up.set h.1.g9 rfl (h.2.2.1 9 (by decide))
    exact H _ (h.fx (h.1.u9 (upd ke.2 k (nn 0))) u3 rfl rfl) (hf.trans (u3.1.fo (by omega)))
  unfold fX6_opens_b84
  rw [q0, FU_eq]
  refine step ke G 19999 0 _ h hf (by omega) ?_
  intro G1 h1 f1
  refine step _ G1 19998 1 _ h1 f1 (by omega) ?_
  intro G2 h2 f2
  refine step _ G2 19997 2 _ h2 f2 (by omega) ?_
  intro G3 h3 f3
  show ok (fX6_opens_b87 (19996 + 1) G3 0 r (nn 3)) _
  unfold fX6_opens_b87
  refine ift (by decide) ?_
  unfold fX6_opens_b107
  refine sa1 h3.1.r0_4 ?_
  refine sa1 h3.1.io6 ?_
  refine ca1 (forget_sp h3) ?_
  rintro G4 ⟨y1, y2⟩
  refine sa1 y1.1.io0 ?_
  refine ca1 (bookIsOther_sp y1) ?_
  rintro G5 ⟨y3, y4⟩
  refine sa1 (y3.lf hs hr).n3 ?_
  exact ok_some ⟨rfl, y3, f3.trans (y2.trans y4)⟩
theorem A_opens (x : Int32) : ∀ S, SA S → ∃ S1 r, SA S1 ∧ C6 S S1 r (fun G => fX6_opens G 0 x) ∧ R7 S S1 r (fun A M B => fX7_opens A M B x) ∧ tsOf S1 ≤ tsOf S := by
  rintro ⟨⟨T, St, kd⟩, ⟨tx, ts, tb⟩, ro, st, ⟨s, u, f⟩, ke, W⟩ hS
  have hts : ts ≤ 80 := hS.2.1.1
  obtain ⟨⟨hv, ht⟩, hs, huf, hst⟩ := hS.cur
  have hz := hv.2.1
  refine txt_all (h6 := fun v4 G3 => if x < (1 : Int32) then (some ((-100 : Int32), G3)) else if x ≤ (20 : Int32) then (ob1 (frf G3 0 6 3) fun qv11 => ob1 (frf G3 0 6 0) fun qv12 => ob1 (isO G3 qv11 4) fun u13 => ob1 (fX4_renew G3 qv11 qv12 v4 x) fun G15 => ob1 (frf G15 0 6 4) fun qv16 => ob1 (isO G15 qv16 1) fun u17 => ob2 (fX1_current G15 qv16) fun qv20 G19 => ob1 (isO G19 qv20 2) fun u21 => ob1 (fX2_clear G19 qv20) fun G23 => ob1 (frf G23 0 6 3) fun qv24 => ob1 (fi G23 qv24 4 1) fun v25 => if v25 ≤ 0 then (fX6_opens_b84 G23 0 qv20) else ob1 (frf G23 0 6 3) fun qv27 => ob1 (fi G23 qv27 4 1) fun v28 => ob1 (isO G23 qv20 2) fun u29 => ob1 (fX2_addPiece G23 qv20 (0 : Int32) v28) fun G31 => fX6_opens_b84 G31 0 qv20) else some ((-100 : Int32), G3)) (h7 := fun A M2 B => ob1 (fX7_in x.toInt64 (1 : Int64) (20 : Int64)) fun v6 => if v6 = 0 then (some ((-100 : Int32), M2, B)) else zlet (mI M2 8 (0 : Int32)) fun M8 => zlet (mI M8 9 (0 : Int32)) fun M9 => zlet (mI M9 11 (0 : Int32)) fun M10 => fX7_opens_b53 A FU M10 B x (0 : Int32)) hS (fun _ => rfl) (fun _ _ _ => rfl) ?_
  intro hT
  have hS0 := S_emp hS
  by_cases e : ∃ t, 1 ≤ t ∧ t ≤ 20 ∧ x = nn t
  · obtain ⟨t, t1, t2, rfl⟩ := e
    have htm : t * ts ≤ 1600 := Nat.le_trans (Nat.mul_le_mul t2 hts) (by decide)
    have hin : fX7_in (nn t).toInt64 (1 : Int64) (20 : Int64) = some (nn 1) := by rw [in_lit (lo := 1) (hi := 20) (by omega) rfl rfl, if_pos ⟨t1, t2⟩]
    obtain ⟨N, hN⟩ : ∃ N, N = t * ts := ⟨_, rfl⟩
    have hN1 : N ≤ 1600 := by omega
    have hts1 : ∀ k, k < N → 0 < ts := by
      intro k hk
      by_cases e0 : ts = 0
      · rw [e0, Nat.mul_zero] at hN
        omega
      · omega
    obtain ⟨s1, s2, s3, s4, s5, s6, s7⟩ := hS0
    have hWn : ∀ V i, i ≠ s → va_up W s V i = W i := fun V i hi => if_neg hi
    refine ⟨((T, fun k => T (k % ts), fun _ => 0), (tx, 0, -1), ro, (N, 0, rnw st.2.2 tx ts N), (s, 0, 0), (ke.1, upd (upd (upd ke.2 0 (nn 0)) 1 (nn 0)) 2 (nn 0)), va_up W s (oneP N, fun _ => -1, fun _ => 0)), nn N, ?_, ?_, ?_, Nat.zero_le _⟩
    · refine ⟨s1, s2, ⟨fun k hk => ?_, hN1, Nat.zero_le _⟩, ⟨hs, by show 0 + 0 ≤ 30; omega⟩, fun i hi hw => ?_, fun i hi => ?_, fun h => by cases h⟩
      · have hk' : k < N := by
          change k < N ∨ (1600 ≤ k ∧ k < 1600 + 0) at hk
          omega
        have := Nat.mod_lt k (hts1 k hk')
        show rnw st.2.2 tx ts N k = _ ∧ _
        unfold rnw
        rw [if_pos hk']
        exact ⟨(s1 (k % ts) (by omega)).1, hT _ this⟩
      · change (i + 31 - s) % 31 ≤ 0 ∨ (s + 31 - i) % 31 ≤ 0 at hw
        have : i = s := by omega
        subst this
        rw [va_up_same]
        refine ⟨ok_oneP, ?_, fun k hk => ⟨by show (-1 : Int) ≤ -1; omega, by show (-1 : Int) ≤ _; omega, by show 0 ≤ 1; omega⟩⟩
        show sz (oneP N) ≤ 3000
        rw [sz_oneP]
        omega
      · refine ⟨?_, by show 0 ≤ 1; omega, fun h => by cases h⟩
        show upd (upd (upd ke.2 0 (nn 0)) 1 (nn 0)) 2 (nn 0) i = nn 0
        by_cases i2 : i = 2
        · rw [i2, upd_same]
        · rw [upd_ne _ _ i2]
          by_cases i1 : i = 1
          · rw [i1, upd_same]
          · rw [upd_ne _ _ i1, show i = 0 by omega, upd_same]
    · rintro G c n ⟨bu, old, lv, pg, qg, sc, h1, h2, h3⟩
      refine ifn (by rw [q1, nn_lt (by omega) (by omega)]; omega) ?_
      refine ift (by rw [q20, nn_le (by omega) (by omega)]; omega) ?_
      refine sa1 h1.1.r0_3 ?_
      refine sa1 h1.1.r0_0 ?_
      refine sa1 h1.1.io4 ?_
      refine ca1 (renew_sp (T := T) h1.1 h1.2.2.1 0 hts t2 (fun j hj => ⟨(s1 j (by omega)).1, (hT j hj).2⟩)) ?_
      rw [← hN]
      rintro G2 ⟨y1, y2⟩
      have x2 := h1.fx y1 y2 rfl rfl
      refine sa1 x2.1.r0_4 ?_
      refine sa1 x2.1.io6 ?_
      refine ca2 (current_sp x2 hs) ?_
      rintro r G3 ⟨c3, b3, lv3, z1, z2, z3, z4⟩
      have lS := z2.lf hs z1
      refine sa1 lS.io ?_
      refine ca1 (clear_sp lS) ?_
      rintro G4 ⟨l4, u4⟩
      have l4' := l4.free (fun _ => 0)
      have x4 := z2.leaf (i := s) (w := ([], fun _ => -1, fun _ => 0)) (by omega) u4 (by rw [hvf_ring hs]; show LO G4 c3 _ (lv3 s) _ _; rw [z1]; exact l4')
      refine sa1 x4.1.r0_3 ?_
      refine sa1 (fi_at (v := nn N) x4.1.g4 rfl) ?_
      have fo4 := (y2.1.fo (by omega)).trans (z3.trans (u4.1.fo (by omega)))
      by_cases e0 : N = 0
      · refine ift (by rw [e0]; decide) ?_
        refine ok_imp (open84 x4 hs z1 fo4) ?_
        rintro z ⟨w1, w2, w3⟩
        rw [va_up_same] at w1
        refine ⟨by rw [w1, e0]; rfl, c3, ⟨va_up b3 s (b3 s), 1, lv3, pg, qg, sc, ?_, Nat.le_refl _, fun h => absurd h (by decide)⟩, w3⟩
        rw [show oneP N = [] by unfold oneP; rw [if_pos e0]]
        exact w2
      · refine ifn (by rw [q0, nn_le (by omega) (by omega)]; omega) ?_
        refine sa1 x4.1.r0_3 ?_
        refine sa1 (fi_at (v := nn N) x4.1.g4 rfl) ?_
        refine sa1 l4'.io ?_
        obtain ⟨d, hd⟩ := x4.rm (i := s) (by omega)
        rw [va_up_same] at hd
        rw [q0]
        refine ca1 (addPiece_sp l4' (s := 0) (l := N) (by simp) hd) ?_
        rintro G5 ⟨c5, b5, l5, u5⟩
        rw [Nat.zero_add, List.nil_append] at l5
        have hV : oneP N = [(0, N)] := by
          unfold oneP
          rw [if_neg e0]
        have x5 := x4.leaf (i := s) (w := (oneP N, fun _ => -1, fun _ => 0)) (by omega) (by rw [va_up_same]; exact u5) (by rw [hvf_ring hs]; show LO G5 c5 _ (lv3 s) _ _; rw [z1]; show LfS G5 c5 (s + 1) r b5 (oneP N) (sz (oneP N)) _ _; rw [sz_oneP, hV]; exact l5)
        rw [va_va W s] at x5
        refine ok_imp (open84 x5 hs z1 (fo4.trans (u5.1.fo (by omega)))) ?_
        rintro z ⟨w1, w2, w3⟩
        rw [va_up_same] at w1
        exact ⟨by rw [w1, sz_oneP], c5, ⟨_, 1, lv3, pg, qg, sc, w2, Nat.le_refl _, fun h => absurd h (by decide)⟩, w3⟩
    · intro A M B n Sf hR h5
      have hT7 := R_tx hR (show SA ((T, St, kd), (tx, 0, tb), ro, st, (s, u, f), ke, W) from ⟨s1, s2, s3, s4, s5, s6, s7⟩)
      obtain ⟨c, y2, hcr, h50, hrm, h6, hgo⟩ := hR.go
      obtain ⟨r1, r2, r3, r4, r5, ⟨r6, r7, r8, r9⟩, r10, r11⟩ := h6
      obtain ⟨M1, a1, a2, a3, a4, a5⟩ := open53 (A := A) (B := B) (M := mI (mI (mI M 8 0) 9 0) 11 0) (T := T) (m := ts) (t := t) h5 (fun i hi => (hT7 i hi).1) hts t2
      rw [← hN] at a2
      obtain ⟨M2, b1, b2, b3, b4, b5⟩ := unsets7 (M := mI (mI M1 8 (nn N)) 11 (nn N))
      obtain ⟨M3, c1, c2, c3, c4, c5⟩ := open134 (A := A) (B := B) (M := mI (mI (mI M2 17 0) 20 0) 21 (-5))
      have i3 : ∀ i, i ≠ 8 → i ≠ 9 → i ≠ 11 → i ≠ 17 → i ≠ 20 → i ≠ 21 → M3.1 i = M.1 i := by
        intro i q8 q9 q11 q17 q20 q21
        rw [c3]
        refine (upd_ne _ _ q21).trans ((upd_ne _ _ q20).trans ((upd_ne _ _ q17).trans ?_))
        rw [b3]
        refine (upd_ne _ _ q11).trans ((upd_ne _ _ q8).trans ?_)
        rw [a3]
        exact (upd_ne _ _ q11).trans ((upd_ne _ _ q9).trans (upd_ne _ _ q8))
      have h8 : M3.1 8 = nn N := by
        rw [c3]
        show M2.1 8 = _
        rw [b3]
        rfl
      have h9 : M3.1 9 = nn 0 := by
        rw [c3]
        show M2.1 9 = _
        rw [b3]
        show M1.1 9 = _
        rw [a3]
        rfl
      have h11 : M3.1 11 = nn N := by
        rw [c3]
        show M2.1 11 = _
        rw [b3]
        rfl
      have j3 : ∀ i, i ≠ 6 → i ≠ 10 → i ≠ 12 → i ≠ 13 → M3.2.1 i = M.2.1 i := by
        intro i q6 q10 q12 q13
        rw [c4]
        show M2.2.1 i = _
        rw [b4 i q12 q13]
        show M1.2.1 i = _
        rw [a4 i q6 q10]
        rfl
      have j6 : M3.2.1 6 = M1.2.1 6 := by
        rw [c4]
        show M2.2.1 6 = _
        rw [b4 6 (by decide) (by decide)]
        rfl
      have j10 : M3.2.1 10 = M1.2.1 10 := by
        rw [c4]
        show M2.2.1 10 = _
        rw [b4 10 (by decide) (by decide)]
        rfl
      have hrow : M3.2.2.1 = M.2.2.1 := by
        rw [c5]
        show M2.2.2.1 = _
        rw [b5]
        show M1.2.2.1 = _
        rw [a5]
        rfl
      obtain ⟨hcp, hfin⟩ := hgo [] M3 (Nat.zero_le _) (Nat.zero_le _)
      refine ⟨M3, [], ?_, hfin _ ⟨⟨fun i hi => ?_, ?_⟩, ⟨?_, fun i hi => ?_⟩, ⟨h8, h9, hN1, Nat.zero_le _, fun k hk => ?_, fun k hk => absurd hk (Nat.not_lt_zero _)⟩, ?_, ?_, ⟨?_, ?_, fun i hi => absurd hi (Nat.not_lt_zero _), fun i hi => absurd hi (Nat.not_lt_zero _)⟩, fun i hi => ⟨fun _ => c2 i hi, fun h => by cases h⟩, Or.inl ⟨rfl, ?_⟩⟩⟩
      · show (ob1 (fX7_in (nn t).toInt64 (1 : Int64) (20 : Int64)) _) = _
        rw [hin, ob1_some, if_neg (by decide), zlt, zlt, zlt]
        refine Eq.trans a1 ?_
        have m15 : M1.1 5 = nn ts := by
          rw [a3]
          exact h5
        unfold fX7_opens_b106
        rw [m15, nn_mul, ← hN, zlt, zlt]
        have h118 : (mI M1 8 (nn N)).1 8 = nn N := rfl
        rw [h118, b1, ob1_some]
        unfold fX7_forgetsEdits
        rw [zlt, zlt, zlt, ob1_some]
        refine Eq.trans c1 ?_
        rw [List.append_nil]
        have : (mI (mI (mI M2 17 0) 20 0) 21 (-5)).1 11 = nn N := by
          show M2.1 11 = _
          rw [b3]
          rfl
        rw [this]
      · rw [j3 3 (by decide) (by decide) (by decide) (by decide)]
        exact r1.1 i hi
      · rw [i3 4 (by decide) (by decide) (by decide) (by decide) (by decide) (by decide)]
        exact r1.2
      · rw [i3 1 (by decide) (by decide) (by decide) (by decide) (by decide) (by decide)]
        exact r2.1
      · rw [hrow]
        exact r2.2 i hi
      · rw [j6]
        exact (a2 k hk).1
      · show RBk M3 (va_up W s _ s).1
        rw [va_up_same]
        refine ⟨by rw [h11]; show nn N = nn (sz (oneP N)); rw [sz_oneP], by show sz (oneP N) ≤ 3000; rw [sz_oneP]; omega, fun p hp => ?_⟩
        change p < sz (oneP N) at hp
        rw [sz_oneP] at hp
        show _ = nn (cod (oneP N) p)
        rw [j10, cod_oneP hp hN1]
        exact (a2 p hp).2
      · show RMk M3 (va_up W s _ s)
        rw [va_up_same]
        intro k hk
        rw [c4]
        exact b2 k hk
      · rw [c3]
        rfl
      · rw [c3]
        rfl
      · rw [c3]
        rfl
  · refine ⟨_, -100, hS0, ?_, ?_, Nat.zero_le _⟩
    · intro G c n h
      rcases nn_or x with hx | ⟨p, hp, rfl⟩
      · refine ift (by rw [Int32.lt_iff_toInt_lt] at *; have : (1 : Int32).toInt = 1 := rfl; have : (0 : Int32).toInt = 0 := rfl; omega) ?_
        exact C6.ret h
      · by_cases e1 : p < 1
        · refine ift (by rw [q1, nn_lt hp (by omega)]; exact e1) ?_
          exact C6.ret h
        · refine ifn (by rw [q1, nn_lt hp (by omega)]; exact e1) ?_
          refine ifn (by rw [q20, nn_le hp (by omega)]; exact fun h => e ⟨p, by omega, h, rfl⟩) ?_
          exact C6.ret h
    · intro A M B n Sf hR h5
      have hin : fX7_in x.toInt64 (1 : Int64) (20 : Int64) = some (nn 0) := by
        rcases nn_or x with hx | ⟨p, hp, rfl⟩
        · exact in_litn (lo := 1) hx rfl
        · rw [in_lit (lo := 1) (hi := 20) hp rfl rfl, if_neg (fun h => e ⟨p, h.1, h.2, rfl⟩)]
      refine ⟨M, [], ?_, ?_⟩
      · show (ob1 (fX7_in x.toInt64 (1 : Int64) (20 : Int64)) _) = _
        rw [hin, ob1_some, if_pos z0, List.append_nil]
      · rw [List.append_nil]
        exact hR.less (by omega)
theorem op_opens : Op_opens Inv := by
  intro k G x hI
  exact op_act (f6 := fun G => fX6_opens G 0 x) (f7 := fun A M B => fX7_opens A M B x) hI (A_opens x)
