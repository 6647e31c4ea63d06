/-! edits of a leaf -/
theorem cut_app {A B : PC} (hw : wfP (A ++ B)) {p : Nat} (hp : sz A ≤ p) : cutL (A ++ B) p = A ++ cutL B (p - sz A) ∧ cutR (A ++ B) p = cutR B (p - sz A) := by
  have h := cut_split hw (k := A.length) (p := p) (by simp) (by rw [List.take_left]; exact hp)
  rw [List.take_left, List.drop_left] at h
  exact h
theorem cutLR {P : PC} (hw : wfP P) {p n : Nat} (hp : p ≤ sz P) : cutL (cutL P p ++ cutR P p) (p + n) = cutL P p ++ cutL (cutR P p) n ∧ cutR (cutL P p ++ cutR P p) (p + n) = cutR (cutR P p) n := by
  have hw2 : wfP (cutL P p ++ cutR P p) := wfP_app.mpr ⟨wf_cutL hw, wf_cutR hw⟩
  have h := cut_app hw2 (p := p + n) (by rw [sz_cutL hp]; omega)
  rw [sz_cutL hp, Nat.add_sub_cancel_left] at h
  exact h
theorem cutR_cutR {P : PC} (hw : wfP P) {p n : Nat} : cutR (cutR P p) n = cutR P (p + n) := by
  induction P generalizing p n with
  | nil => simp [cutR]
  | cons q t ih =>
    have hw1 := wfP_cons.mp hw
    by_cases h0 : p = 0
    · subst h0
      rw [cutR_zero, Nat.zero_add]
    · by_cases h1 : p < q.2
      · simp only [cutR]
        rw [if_neg h0, if_pos h1, if_neg (show ¬ p + n = 0 by omega)]
        simp only [cutR]
        by_cases h2 : n = 0
        · subst h2
          rw [if_pos rfl, Nat.add_zero, if_pos h1]
        · rw [if_neg h2]
          by_cases h3 : n < q.2 - p
          · rw [if_pos h3, if_pos (by omega)]
            congr 2 <;> omega
          · rw [if_neg h3, if_neg (by omega)]
            congr 1
            omega
      · have e1 : cutR (q :: t) p = cutR t (p - q.2) := by
          simp only [cutR]
          rw [if_neg h0, if_neg h1]
        have e2 : cutR (q :: t) (p + n) = cutR t (p + n - q.2) := by
          simp only [cutR]
          rw [if_neg (by omega), if_neg (by omega)]
        rw [e1, e2, ih hw1.2]
        congr 1
        omega
def takP (P : PC) (p n : Nat) : PC := cutL P p ++ cutR P (p + n)
theorem sz_takP {P : PC} {p n : Nat} (h : p + n ≤ sz P) : sz (takP P p n) = sz P - n := by
  unfold takP
  rw [sz_app, sz_cutL (by omega), sz_cutR h]
  omega
theorem wf_takP {P : PC} {p n : Nat} (h : wfP P) : wfP (takP P p n) := wfP_app.mpr ⟨wf_cutL h, wf_cutR h⟩
theorem ok_takP {on an : Nat} {P : PC} {p n : Nat} (h : okP on an P) : okP on an (takP P p n) := okP_app.mpr ⟨ok_cutL h, ok_cutR h⟩
section Edit
variable {G : zH} {c : Nat → Nat} {i r b d p n : Nat} {P : PC} {mk : Nat → Int} {st : Nat → Nat}
theorem dropSigns_sp (h : Lf G c i r b P mk st) (hw : wfP P) (hp : p + n ≤ sz P) (hz : sz P ≤ 3000) (hr : Rm G (b + d)) : ok (fX2_dropSigns G r (nn p) (nn n)) fun G' => ∃ c' b', Lf G' c' i r b' (takP P p n) mk st ∧ Up i G c b G' c' b' := by
  unfold fX2_dropSigns
  refine sa1 h.io ?_
  refine ca2 (cutAt_sp (d := d) h hw (p := p) (by omega) hz hr) ?_
  rintro v G1 ⟨hv, c1, b1, h1, u1⟩
  have hw1 : wfP (cutL P p ++ cutR P p) := wfP_app.mpr ⟨wf_cutL hw, wf_cutR hw⟩
  have hz1 : sz (cutL P p ++ cutR P p) = sz P := by rw [sz_app, sz_cutL (by omega), sz_cutR (by omega)]; omega
  change v = _ at hv
  subst hv
  refine sa1 h1.io ?_
  rw [nn_add]
  refine ca2 (cutAt_sp (d := d) h1 hw1 (p := p + n) (by rw [hz1]; exact hp) (by rw [hz1]; exact hz) (u1.rm hr)) ?_
  rintro v G2 ⟨hv, c2, b2, h2, u2⟩
  change v = _ at hv
  have hLR := cutLR hw (p := p) (n := n) (by omega)
  rw [hLR.1] at hv h2
  rw [hLR.2, cutR_cutR hw] at h2
  subst hv
  refine sa1 h2.io ?_
  rw [nn_sub (by simp), List.length_append, Nat.add_sub_cancel_left]
  obtain ⟨hs, hl, hm, ht, cap, fs, fl, fm, ft, a1, a2, a3, a4, a5, a6, a7⟩ := h2
  refine ca1 (closeGap_sp (p := (cutL P p).length) (n := (cutL (cutR P p) n).length) a1 b2 (by simp) a4 a6) ?_
  rintro G3 ⟨fs3, fl3, r3, u3, k1, k2⟩
  refine sa1 r3.n3 ?_
  rw [nn_sub (show n ≤ sz P by omega)]
  obtain ⟨G4, e4, r4, u4⟩ := r3.s3 (nn (sz P - n)) b2
  refine sa1 e4 ?_
  have hlen : (cutL P p ++ cutL (cutR P p) n ++ cutR P (p + n)).length - (cutL (cutR P p) n).length = (takP P p n).length := by
    unfold takP
    simp only [List.length_append]
    omega
  rw [hlen] at r4 k2
  rw [← sz_takP hp] at r4
  refine ok_some ⟨c2, b2, ⟨hs, hl, hm, ht, cap, fs3, fl3, fm, ft, r4, ?_, a3, ?_, a5, a6, a7⟩, ((u1.trans u2).trans u3).trans u4⟩
  · rw [List.append_assoc] at a2
    have a2' := AL_app.mp a2
    have a2'' := AL_app.mp a2'.2
    unfold takP at k2 ⊢
    refine AL_app.mpr ⟨AL_congr a2'.1 k1, AL_congr a2''.2 ?_⟩
    intro k hk
    have := k2 ((cutL P p).length + k) (by omega) (by rw [List.length_append]; omega)
    rw [Nat.add_right_comm, Nat.add_assoc] at this
    exact this
  · rw [← hlen]
    omega
theorem bdM_go {z : Nat} (hb : bdM mk st z) (hp : p + n ≤ z) : bdM (goM p n mk) st (z - n) := by
  intro k hk
  have := hb k hk
  unfold goM
  split
  · omega
  · split <;> omega
theorem bdM_come {z : Nat} (hb : bdM mk st z) : bdM (comeM p n mk st) st (z + n) := by
  intro k hk
  have := hb k hk
  unfold comeM
  split <;> omega
theorem bdM_mov {z g : Nat} (hb : bdM mk st z) (hp : p + n ≤ z) (hg : g + n ≤ z) : bdM (movM p n g mk st) st z := by
  intro k hk
  have := hb k hk
  unfold movM
  split
  · omega
  · split
    · split at * <;> omega
    · split at * <;> omega
theorem bdM_mono {z z' : Nat} (hb : bdM mk st z) (hz : z ≤ z') : bdM mk st z' := by
  intro k hk
  have := hb k hk
  omega
theorem take_sp (h : Lf G c i r b P mk st) (hw : wfP P) (hp : p + n ≤ sz P) (hz : sz P ≤ 3000) (hm : bdM mk st (sz P)) (hr : Rm G (b + d)) : ok (fX2_take G r (nn p) (nn n)) fun G' => ∃ c' b', Lf G' c' i r b' (takP P p n) (goM p n mk) st ∧ Up i G c b G' c' b' := by
  unfold fX2_take
  refine sa1 h.io ?_
  refine ca1 (dropSigns_sp h hw hp hz hr) ?_
  rintro G1 ⟨c1, b1, h1, u1⟩
  refine sa1 h1.io ?_
  refine ca1 (marksGoBack_sp (p := p) (n := n) h1 hm hz (by omega) (by omega)) ?_
  rintro G2 ⟨h2, u2⟩
  exact ok_some ⟨c1, b1, h2, u1.trans u2⟩
/-- what is inserted -/
def insP (P : PC) (p first n : Nat) : PC := match (cutL P p).getLast? with
  | some q => if 1600 ≤ q.1 ∧ q.1 + q.2 = first then (cutL P p).dropLast ++ (q.1, q.2 + n) :: cutR P p else cutL P p ++ (first, n) :: cutR P p
  | none => cutL P p ++ (first, n) :: cutR P p
theorem last_split {A : PC} {q : Nat × Nat} (h : A.getLast? = some q) : A = A.dropLast ++ [q] := by
  have hne : A ≠ [] := by
    intro e
    rw [e] at h
    simp at h
  rw [List.getLast?_eq_getLast hne] at h
  have := List.dropLast_concat_getLast hne
  rw [Option.some.inj h] at this
  exact this.symm
theorem sz_insP {P : PC} {p first n : Nat} (h : p ≤ sz P) : sz (insP P p first n) = sz P + n := by
  have e1 : sz (cutL P p ++ (first, n) :: cutR P p) = sz P + n := by
    rw [sz_app, sz_cons, sz_cutL h, sz_cutR h]
    show p + (n + (sz P - p)) = _
    omega
  unfold insP
  split
  · rename_i q hq
    split
    · have hs := last_split hq
      have := congrArg sz hs
      rw [sz_cutL h, sz_app, sz_cons, sz_nil] at this
      rw [sz_app, sz_cons, sz_cutR h]
      show _ + (q.2 + n + (sz P - p)) = _
      omega
    · exact e1
  · exact e1
theorem ok_insP {on an : Nat} {P : PC} {p n : Nat} (h : okP on an P) (hn : 1 ≤ n) : okP on (an + n) (insP P p (1600 + an) n) := by
  have hL := okP_mono (ok_cutL (p := p) h) (show an ≤ an + n by omega)
  have hR := okP_mono (ok_cutR (p := p) h) (show an ≤ an + n by omega)
  have e1 : okP on (an + n) (cutL P p ++ (1600 + an, n) :: cutR P p) := by
    refine okP_app.mpr ⟨hL, okP_cons.mpr ⟨?_, hR⟩⟩
    unfold okQ
    show 1 ≤ n ∧ (1600 + an + n ≤ on ∨ 1600 ≤ 1600 + an ∧ 1600 + an + n ≤ 1600 + (an + n))
    omega
  unfold insP
  split
  · rename_i q hq
    split
    · rename_i hc
      have hs := last_split hq
      rw [hs] at hL
      have hL' := okP_app.mp hL
      refine okP_app.mpr ⟨hL'.1, okP_cons.mpr ⟨?_, hR⟩⟩
      have := (okP_cons.mp hL'.2).1
      unfold okQ at *
      show 1 ≤ q.2 + n ∧ (q.1 + (q.2 + n) ≤ on ∨ 1600 ≤ q.1 ∧ q.1 + (q.2 + n) ≤ 1600 + (an + n))
      omega
    · exact e1
  · exact e1
theorem storeOf_nn {s : Nat} (h : s < 2147483648) : fX6_storeOf (nn s) = some (nn (if 1600 ≤ s then 1 else 0)) := by
  unfold fX6_storeOf
  rw [q1600, if_le (by omega) h]
  by_cases e : 1600 ≤ s
  · rw [if_pos e, if_pos e]
    rfl
  · rw [if_neg e, if_neg e]
    rfl
theorem insert_b90_sp {sgn : Nat} (h : LfS G c i r b P sgn mk st) {z : Nat} (hm : bdM mk st z) (hz : z ≤ 3000) (hp : p ≤ 3000) (hn : n ≤ 3000) : ok (fX2_insert_b90 G r (nn p) (nn n)) fun G' => LfS G' c i r b P (sgn + n) (comeM p n mk st) st ∧ Up i G c b G' c b := by
  obtain ⟨hs, hl, hm', ht, cap, fs, fl, fm, ft, a1, a2⟩ := h
  unfold fX2_insert_b90
  refine sa1 a1.n3 ?_
  rw [nn_add]
  obtain ⟨G1, e1, r1, u1⟩ := a1.s3 (nn (sgn + n)) b
  refine sa1 e1 ?_
  refine sa1 r1.io ?_
  refine ca1 (marksGoOn_sp (p := p) (n := n) ⟨hs, hl, hm', ht, cap, fs, fl, fm, ft, r1, a2⟩ hm hz hp hn) ?_
  rintro G2 ⟨h2, u2⟩
  exact ok_some ⟨h2, u1.trans u2⟩
theorem insert_sp {on an : Nat} (h : Lf G c i r b P mk st) (hk : okP on an P) (hp : p ≤ sz P) (hz : sz P + n ≤ 3000) (hn1 : 1 ≤ n) (hon : on ≤ 1600) (han : an ≤ 6000) (hm : bdM mk st (sz P)) (hr : Rm G (b + d)) : ok (fX2_insert G r (nn p) (nn (1600 + an)) (nn n)) fun G' => ∃ c' b', Lf G' c' i r b' (insP P p (1600 + an) n) (comeM p n mk st) st ∧ Up i G c b G' c' b' := by
  have hw := okP_wf hk
  have hwc : wfP (cutL P p ++ cutR P p) := wfP_app.mpr ⟨wf_cutL hw, wf_cutR hw⟩
  have hlc := len_le_sz hwc
  rw [sz_app, sz_cutL hp, sz_cutR hp, List.length_append] at hlc
  unfold fX2_insert
  refine sa1 h.io ?_
  refine ca2 (cutAt_sp (d := d) h hw (p := p) hp (by omega) hr) ?_
  rintro v G1 ⟨hv, c1, b1, h1, u1⟩
  change v = _ at hv
  subst hv
  change LfS G1 c1 i r b1 _ _ mk st at h1
  change Up i G c b G1 c1 b1 at u1
  have b67 : insP P p (1600 + an) n = cutL P p ++ (1600 + an, n) :: cutR P p → ok (fX2_insert_b67 G1 r (nn p) (nn (1600 + an)) (nn n) (nn (cutL P p).length)) fun G' => ∃ c' b', Lf G' c' i r b' (insP P p (1600 + an) n) (comeM p n mk st) st ∧ Up i G c b G' c' b' := by
    intro hins
    obtain ⟨hs, hl, hm', ht, cap, fs, fl, fm, ft, a1, a2, a3, a4, a5, a6, a7⟩ := h1
    unfold fX2_insert_b67
    refine sa1 a1.io ?_
    rw [q1]
    refine ca1 (openGap_sp (b := b1) (d := d) (p := (cutL P p).length) (n := 1) a1 (by simp) a4 (by rw [List.length_append]; omega) a5 a6 a7 (u1.rm hr)) ?_
    rintro G2 ⟨c2, hs2, hl2, cap2, fs2, fl2, b2, r2, u2, bd2, m1, m2, m3, k1, k2⟩
    rw [List.length_append] at m1 k2
    refine sa1 r2.f0 ?_
    obtain ⟨G3, e3, r3, u3⟩ := r2.wS (k := (cutL P p).length) (nn (1600 + an)) b2 (by omega) m3
    refine sa1 e3 ?_
    refine sa1 r3.f1 ?_
    obtain ⟨G4, e4, r4, u4⟩ := r3.wL (k := (cutL P p).length) (nn n) b2 (by omega) m3
    refine sa1 e4 ?_
    have hL : LfS G4 c2 i r b2 (insP P p (1600 + an) n) (sz P) mk st := by
      have e : (cutL P p ++ (1600 + an, n) :: cutR P p).length = (cutL P p ++ cutR P p).length + 1 := by
        simp
        omega
      rw [← e, ← hins] at r4
      refine ⟨hs2, hl2, hm', ht, cap2, _, _, fm, ft, r4, ?_, a3, ?_, m2, m3, bd2⟩
      · rw [hins]
        have a2' := AL_app.mp a2
        refine AL_app.mpr ⟨AL_congr a2'.1 ?_, AL_cons.mpr ⟨⟨?_, ?_⟩, AL_congr a2'.2 ?_⟩⟩
        · intro k hk'
          rw [upd_ne _ _ (by omega), upd_ne _ _ (by omega)]
          exact k1 k hk'
        · exact upd_same _ _ _
        · exact upd_same _ _ _
        · intro k hk'
          show upd fs2 _ _ ((cutL P p).length + (k + 1)) = _ ∧ upd fl2 _ _ ((cutL P p).length + (k + 1)) = _
          rw [upd_ne _ _ (by omega), upd_ne _ _ (by omega), ← Nat.add_assoc]
          exact k2 ((cutL P p).length + k) (by omega) (by omega)
      · rw [hins]
        simp
        omega
    refine ok_imp (insert_b90_sp (p := p) (n := n) hL hm (by omega) (by omega) (by omega)) ?_
    rintro G5 ⟨h5, u5⟩
    refine ⟨c2, b2, ?_, (((u1.trans u2).trans u3).trans u4).trans u5⟩
    rw [Lf, sz_insP hp]
    exact h5
  by_cases e0 : (cutL P p).length = 0
  · refine ift (by rw [q0, nn_le (by omega) (by omega)]; omega) ?_
    refine b67 ?_
    unfold insP
    rw [List.length_eq_zero_iff.mp e0]
    rfl
  · refine ifn (by rw [q0, nn_le (by omega) (by omega)]; omega) ?_
    obtain ⟨q, hq⟩ : ∃ q, (cutL P p).getLast? = some q := by
      have hne : cutL P p ≠ [] := fun e => e0 (by rw [e]; rfl)
      exact ⟨_, List.getLast?_eq_getLast hne⟩
    have hsp := last_split hq
    have hqk : okQ on an q := by
      have := ok_cutL (p := p) hk
      rw [hsp] at this
      exact (okP_cons.mp (okP_app.mp this).2).1
    have hql : (cutL P p)[(cutL P p).length - 1]? = some q := by rw [← List.getLast?_eq_getElem?]; exact hq
    obtain ⟨hs, hl, hm', ht, cap, fs, fl, fm, ft, a1, a2, a3, a4, a5, a6, a7⟩ := id h1
    have a2' := AL_app.mp a2
    have hv := a2'.1 _ q hql
    rw [List.length_append] at a4
    rw [q1, nn_sub (show 1 ≤ (cutL P p).length by omega)]
    refine sa1 a1.f0 ?_
    refine sa1 (a1.rS (k := (cutL P p).length - 1) (by omega) a6) ?_
    rw [hv.1]
    unfold okQ at hqk
    refine sa1 (storeOf_nn (by omega)) ?_
    by_cases e1 : 1600 ≤ q.1
    · refine ift (by rw [if_pos e1]) ?_
      refine sa1 a1.f0 ?_
      refine sa1 (a1.rS (k := (cutL P p).length - 1) (by omega) a6) ?_
      refine sa1 a1.f1 ?_
      refine sa1 (a1.rL (k := (cutL P p).length - 1) (by omega) a6) ?_
      rw [hv.1, hv.2, nn_add]
      by_cases e2 : q.1 + q.2 = 1600 + an
      · refine ift (by rw [e2]) ?_
        refine sa1 a1.f1 ?_
        refine sa1 (a1.rL (k := (cutL P p).length - 1) (by omega) a6) ?_
        rw [hv.2, nn_add]
        obtain ⟨G2, e2', r2, u2⟩ := a1.wL (k := (cutL P p).length - 1) (nn (q.2 + n)) b1 (by omega) a6
        refine sa1 e2' ?_
        have hins : insP P p (1600 + an) n = (cutL P p).dropLast ++ (q.1, q.2 + n) :: cutR P p := by
          unfold insP
          rw [hq]
          show (if 1600 ≤ q.1 ∧ q.1 + q.2 = 1600 + an then _ else _) = _
          rw [if_pos ⟨e1, e2⟩]
        have hdl : (cutL P p).dropLast.length = (cutL P p).length - 1 := List.length_dropLast
        have hL : LfS G2 c1 i r b1 (insP P p (1600 + an) n) (sz P) mk st := by
          have e : ((cutL P p).dropLast ++ (q.1, q.2 + n) :: cutR P p).length = (cutL P p ++ cutR P p).length := by
            simp
            omega
          rw [← e, ← hins] at r2
          refine ⟨hs, hl, hm', ht, cap, _, _, fm, ft, r2, ?_, a3, ?_, a5, a6, a7⟩
          · rw [hins]
            rw [hsp] at a2'
            have a2L := AL_app.mp a2'.1
            refine AL_app.mpr ⟨AL_congr a2L.1 ?_, AL_cons.mpr ⟨⟨?_, ?_⟩, AL_congr a2'.2 ?_⟩⟩
            · intro k hk'
              rw [upd_ne _ _ (by omega)]
              exact ⟨rfl, rfl⟩
            · show fs (_ + 0) = _
              rw [hdl, Nat.add_zero]
              exact hv.1
            · show upd fl _ _ (_ + 0) = _
              rw [hdl, Nat.add_zero, upd_same]
            · intro k hk'
              rw [← hsp]
              show fs (_ + (k + 1)) = _ ∧ upd fl _ _ (_ + (k + 1)) = _
              rw [upd_ne _ _ (by omega), hdl, show (cutL P p).length - 1 + (k + 1) = (cutL P p).length + k by omega]
              exact ⟨rfl, rfl⟩
          · rw [hins]
            simp
            omega
        refine ok_imp (insert_b90_sp (p := p) (n := n) hL hm (by omega) (by omega) (by omega)) ?_
        rintro G5 ⟨h5, u5⟩
        refine ⟨c1, b1, ?_, (u1.trans u2).trans u5⟩
        rw [Lf, sz_insP hp]
        exact h5
      · refine ifn (by rw [nn_eq (by omega) (by omega)]; exact e2) ?_
        refine b67 ?_
        unfold insP
        rw [hq]
        show (if 1600 ≤ q.1 ∧ q.1 + q.2 = 1600 + an then _ else _) = _
        rw [if_neg (by omega)]
    · refine ifn (by rw [if_neg e1, nn_eq (by omega) (by omega)]; omega) ?_
      refine b67 ?_
      unfold insP
      rw [hq]
      show (if 1600 ≤ q.1 ∧ q.1 + q.2 = 1600 + an then _ else _) = _
      rw [if_neg (by omega)]
end Edit
