/-! a leaf by its list of pieces -/
def AL (fs fl : Nat → Int32) (P : PC) : Prop := ∀ k q, P[k]? = some q → fs k = nn q.1 ∧ fl k = nn q.2
theorem AL_nil (fs fl : Nat → Int32) : AL fs fl [] := fun k q h => by simp at h
theorem AL_cons {fs fl : Nat → Int32} {q : Nat × Nat} {t : PC} : AL fs fl (q :: t) ↔ (fs 0 = nn q.1 ∧ fl 0 = nn q.2) ∧ AL (fun j => fs (j + 1)) (fun j => fl (j + 1)) t := by
  constructor
  · intro h
    exact ⟨h 0 q rfl, fun k q' hk => h (k + 1) q' (by simpa using hk)⟩
  · intro h k q' hk
    cases k with
    | zero =>
      have : q = q' := by simpa using hk
      subst this
      exact h.1
    | succ k => exact h.2 k q' (by simpa using hk)
theorem AL_congr {fs fl fs' fl' : Nat → Int32} {P : PC} (h : AL fs fl P) (he : ∀ k, k < P.length → fs' k = fs k ∧ fl' k = fl k) : AL fs' fl' P := by
  intro k q hk
  have h1 := h k q hk
  have h2 := he k (List.getElem?_eq_some_iff.mp hk).1
  exact ⟨h2.1.trans h1.1, h2.2.trans h1.2⟩
theorem AL_app {fs fl : Nat → Int32} {A B : PC} : AL fs fl (A ++ B) ↔ AL fs fl A ∧ AL (fun j => fs (A.length + j)) (fun j => fl (A.length + j)) B := by
  constructor
  · intro h
    refine ⟨fun k q hk => h k q ?_, fun k q hk => h (A.length + k) q ?_⟩
    · rw [List.getElem?_append_left (List.getElem?_eq_some_iff.mp hk).1]; exact hk
    · rw [List.getElem?_append_right (by omega), Nat.add_sub_cancel_left]; exact hk
  · intro h k q hk
    by_cases hl : k < A.length
    · rw [List.getElem?_append_left hl] at hk
      exact h.1 k q hk
    · rw [List.getElem?_append_right (by omega)] at hk
      have := h.2 (k - A.length) q hk
      simp only [show A.length + (k - A.length) = k by omega] at this
      exact this
theorem AL_take {fs fl : Nat → Int32} {P : PC} (h : AL fs fl P) (k : Nat) : AL fs fl (P.take k) := by
  intro j q hj
  have hl := (List.getElem?_eq_some_iff.mp hj).1
  rw [List.length_take] at hl
  rw [List.getElem?_take_of_lt (by omega)] at hj
  exact h j q hj
theorem AL_drop {fs fl : Nat → Int32} {P : PC} (h : AL fs fl P) (k : Nat) : AL (fun j => fs (k + j)) (fun j => fl (k + j)) (P.drop k) := by
  intro j q hj
  rw [List.getElem?_drop] at hj
  exact h (k + j) q hj
def MT (fm ft : Nat → Int32) (mk : Nat → Int) (st : Nat → Nat) : Prop := ∀ k, k < 8 → fm k = ii (mk k) ∧ (0 ≤ mk k → ft k = nn (st k)) ∧ (ft k = nn 0 ∨ ft k = nn 1)
def LfS (G : zH) (c : Nat → Nat) (i r b : Nat) (P : PC) (sgn : Nat) (mk : Nat → Int) (st : Nat → Nat) : Prop := ∃ hs hl hm ht cap fs fl fm ft, LfR G c i r hs hl hm ht cap (nn P.length) (nn sgn) fs fl fm ft ∧ AL fs fl P ∧ MT fm ft mk st ∧ P.length ≤ cap ∧ 16 ≤ cap ∧ cap ≤ 3000 ∧ Bd cap b
abbrev Lf (G : zH) (c : Nat → Nat) (i r b : Nat) (P : PC) (mk : Nat → Int) (st : Nat → Nat) : Prop := LfS G c i r b P (sz P) mk st
theorem LfS.kept {G G' : zH} {c c' : Nat → Nat} {i j r b sgn : Nat} {P : PC} {mk : Nat → Int} {st : Nat → Nat} (h : LfS G c j r b P sgn mk st) (hf : Fr i G c G' c') (hn : j ≠ i) : LfS G' c' j r b P sgn mk st := by
  obtain ⟨hs, hl, hm, ht, cap, fs, fl, fm, ft, h1, h2⟩ := h
  exact ⟨hs, hl, hm, ht, cap, fs, fl, fm, ft, h1.kept hf hn, h2⟩
theorem LfS.io {G : zH} {c : Nat → Nat} {j r b sgn : Nat} {P : PC} {mk : Nat → Int} {st : Nat → Nat} (h : LfS G c j r b P sgn mk st) : isO G r 2 = some () := by
  obtain ⟨hs, hl, hm, ht, cap, fs, fl, fm, ft, h1, h2⟩ := h
  exact h1.io
theorem LfS.n2 {G : zH} {c : Nat → Nat} {j r b sgn : Nat} {P : PC} {mk : Nat → Int} {st : Nat → Nat} (h : LfS G c j r b P sgn mk st) : fi G r 2 2 = some (nn P.length) := by
  obtain ⟨hs, hl, hm, ht, cap, fs, fl, fm, ft, h1, h2⟩ := h
  exact h1.n2
theorem LfS.n3 {G : zH} {c : Nat → Nat} {j r b sgn : Nat} {P : PC} {mk : Nat → Int} {st : Nat → Nat} (h : LfS G c j r b P sgn mk st) : fi G r 2 3 = some (nn sgn) := by
  obtain ⟨hs, hl, hm, ht, cap, fs, fl, fm, ft, h1, h2⟩ := h
  exact h1.n3
theorem LfS.mono {G : zH} {c : Nat → Nat} {j r b b' sgn : Nat} {P : PC} {mk : Nat → Int} {st : Nat → Nat} (h : LfS G c j r b P sgn mk st) (hb : b ≤ b') : LfS G c j r b' P sgn mk st := by
  obtain ⟨hs, hl, hm, ht, cap, fs, fl, fm, ft, h1, h2, h3, h4, h5, h6, h7⟩ := h
  exact ⟨hs, hl, hm, ht, cap, fs, fl, fm, ft, h1, h2, h3, h4, h5, h6, fun q => by have := h7 q; omega⟩
/-! cuts -/
theorem cut_split {P : PC} (hw : wfP P) {k p : Nat} (hk : k ≤ P.length) (hp : sz (P.take k) ≤ p) : cutL P p = P.take k ++ cutL (P.drop k) (p - sz (P.take k)) ∧ cutR P p = cutR (P.drop k) (p - sz (P.take k)) := by
  induction P generalizing k p with
  | nil => simp [cutL, cutR]
  | cons q t ih =>
    have hw1 := wfP_cons.mp hw
    cases k with
    | zero => simp [sz]
    | succ k =>
      simp only [List.take_succ_cons, List.drop_succ_cons, sz_cons] at *
      have hk' : k ≤ t.length := by simpa using hk
      have := ih hw1.2 hk' (p := p - q.2) (by omega)
      simp only [cutL, cutR]
      rw [if_neg (by omega), if_neg (by omega), if_neg (by omega), if_neg (by omega), this.1, this.2, Nat.sub_sub]
      simp
theorem cutL_zero (P : PC) : cutL P 0 = [] := by cases P <;> simp [cutL]
theorem cutR_zero (P : PC) : cutR P 0 = P := by cases P <;> simp [cutR]
theorem take_drop_cons {P : PC} {k : Nat} {q : Nat × Nat} (h : P[k]? = some q) : P.drop k = q :: P.drop (k + 1) := by
  obtain ⟨h1, h2⟩ := List.getElem?_eq_some_iff.mp h
  rw [List.drop_eq_getElem_cons h1, h2]
theorem sz_take_drop (P : PC) (k : Nat) : sz (P.take k) + sz (P.drop k) = sz P := by
  rw [← sz_app, List.take_append_drop]
section Cut
variable {G : zH} {c : Nat → Nat} {i r b d sgn p : Nat} {P : PC} {mk : Nat → Int} {st : Nat → Nat}
def CutQ (G : zH) (c : Nat → Nat) (i r b sgn p : Nat) (P : PC) (mk : Nat → Int) (st : Nat → Nat) (z : Int32 × zH) : Prop := z.1 = nn (cutL P p).length ∧ ∃ c' b', LfS z.2 c' i r b' (cutL P p ++ cutR P p) sgn mk st ∧ Up i G c b z.2 c' b'
theorem cutAt_b4_sp (h : LfS G c i r b P sgn mk st) (hw : wfP P) (hp : p ≤ sz P) (hz : sz P ≤ 3000) (hr : Rm G (b + d)) : ∀ n k, k ≤ P.length → P.length - k < n → sz (P.take k) ≤ p → ok (fX2_cutAt_b4 n G r (nn p) (nn (sz (P.take k))) (nn k)) (CutQ G c i r b sgn p P mk st) := by
  have hlen := len_le_sz hw
  obtain ⟨hs, hl, hm, ht, cap, fs, fl, fm, ft, h1, h2, h3, h4, h5, h6, h7⟩ := id h
  intro n
  induction n with
  | zero => intro k _ hn; omega
  | succ n ih =>
    intro k hk hn hb
    have hs0 := cut_split hw hk hb
    have htd := sz_take_drop P k
    unfold fX2_cutAt_b4
    refine sa1 h1.n2 ?_
    by_cases e1 : P.length ≤ k
    · refine ift (by rw [nn_le (by omega) (by omega)]; exact e1) ?_
      unfold fX2_cutAt_b98
      refine sa1 h1.n2 ?_
      have hk' : k = P.length := by omega
      subst hk'
      rw [List.take_length] at hb hs0
      rw [List.drop_length] at hs0
      simp only [cutL, cutR, List.append_nil] at hs0
      refine ok_some ⟨by rw [hs0.1], c, b, ?_, Up.refl _ _ _ _⟩
      rw [hs0.1, hs0.2, List.append_nil]
      exact h
    · have hkl : k < P.length := by omega
      obtain ⟨q, hq⟩ : ∃ q, P[k]? = some q := ⟨P[k], List.getElem?_eq_getElem hkl⟩
      have hdr := take_drop_cons hq
      have hts : sz (P.take (k + 1)) = sz (P.take k) + q.2 := by
        rw [sz_take_succ hkl]
        rw [List.getElem?_eq_getElem hkl] at hq
        rw [Option.some.inj hq]
      have htl := sz_take_le P (k + 1)
      refine ifn (by rw [nn_le (by omega) (by omega)]; exact e1) ?_
      by_cases e2 : sz (P.take k) < p
      · refine ift (by rw [nn_lt (by omega) (by omega)]; exact e2) ?_
        rw [nn_sub hb]
        refine zl ?_
        refine sa1 h1.f1 ?_
        refine sa1 (h1.rL (by omega) h6) ?_
        rw [(h2 k q hq).2, nn_add]
        refine zl ?_
        by_cases e3 : sz (P.take k) + q.2 ≤ p
        · refine ift (by rw [nn_le (by omega) (by omega)]; exact e3) ?_
          rw [q1, nn_add]
          refine zl ?_
          rw [← hts]
          exact ih (k + 1) (by omega) (by omega) (by omega)
        · refine ifn (by rw [nn_le (by omega) (by omega)]; exact e3) ?_
          refine sa1 h1.io ?_
          rw [q1, nn_add]
          have hcl : cutL P p = P.take k ++ [(q.1, p - sz (P.take k))] := by
            rw [hs0.1, hdr]
            simp only [cutL]
            rw [if_neg (by omega), if_pos (by omega)]
          have hcr : cutR P p = (q.1 + (p - sz (P.take k)), q.2 - (p - sz (P.take k))) :: P.drop (k + 1) := by
            rw [hs0.2, hdr]
            simp only [cutR]
            rw [if_neg (by omega), if_pos (by omega)]
          have hwc : wfP (cutL P p ++ cutR P p) := wfP_app.mpr ⟨wf_cutL hw, wf_cutR hw⟩
          have hlc := len_le_sz hwc
          rw [sz_app, sz_cutL hp, sz_cutR hp] at hlc
          have hlen2 : (cutL P p ++ cutR P p).length = P.length + 1 := by
            rw [hcl, hcr]
            simp
            omega
          rw [hlen2] at hlc
          refine ca1 (openGap_sp (b := b) (d := d) (p := k + 1) (n := 1) h1 (by omega) h4 (by omega) h5 h6 h7 hr) ?_
          rintro G1 ⟨c1, hs1, hl1, cap1, fs1, fl1, b1, r1, u1, bd1, m1, m2, m3, k1, k2⟩
          have hqv := h2 k q hq
          have hq2 : 1 ≤ q.2 := hw q (List.mem_of_getElem? hq)
          refine sa1 r1.f0 ?_
          refine sa1 r1.f0 ?_
          refine sa1 (r1.rS (k := k) (by omega) m3) ?_
          rw [(k1 k (by omega)).1, hqv.1, nn_add]
          obtain ⟨G2, e2', r2, u2⟩ := r1.wS (k := k + 1) (nn (q.1 + (p - sz (P.take k)))) b1 (by omega) m3
          refine sa1 e2' ?_
          refine sa1 r2.f1 ?_
          refine sa1 r2.f1 ?_
          refine sa1 (r2.rL (k := k) (by omega) m3) ?_
          rw [(k1 k (by omega)).2, hqv.2, nn_sub (show p - sz (P.take k) ≤ q.2 by omega)]
          obtain ⟨G3, e3', r3, u3⟩ := r2.wL (k := k + 1) (nn (q.2 - (p - sz (P.take k)))) b1 (by omega) m3
          refine sa1 e3' ?_
          refine sa1 r3.f1 ?_
          obtain ⟨G4, e4', r4, u4⟩ := r3.wL (k := k) (nn (p - sz (P.take k))) b1 (by omega) m3
          refine sa1 e4' ?_
          rw [← hlen2] at r4
          refine ok_some ⟨?_, c1, b1, ⟨hs1, hl1, hm, ht, cap1, _, _, fm, ft, r4, ?_, h3, ?_, m2, m3, bd1⟩, ((u1.trans u2).trans u3).trans u4⟩
          · show nn (k + 1) = _
            rw [hcl]
            simp
            congr 1
            omega
          · rw [hcl, hcr, List.append_assoc]
            refine AL_app.mpr ⟨AL_congr (AL_take h2 k) ?_, ?_⟩
            · intro j hj
              rw [List.length_take] at hj
              rw [upd_ne _ _ (by omega), upd_ne _ _ (by omega), upd_ne _ _ (by omega)]
              exact k1 j (by omega)
            · have hlt : (P.take k).length = k := by rw [List.length_take]; omega
              simp only [hlt, List.cons_append, List.nil_append]
              refine AL_cons.mpr ⟨⟨?_, ?_⟩, AL_cons.mpr ⟨⟨?_, ?_⟩, AL_congr (AL_drop h2 (k + 1)) ?_⟩⟩
              · show upd fs1 (k + 1) _ (k + 0) = _
                rw [upd_ne _ _ (by omega), Nat.add_zero, (k1 k (by omega)).1, hqv.1]
              · exact upd_same _ _ _
              · show upd fs1 (k + 1) _ (k + (0 + 1)) = _
                rw [Nat.zero_add, upd_same]
              · show upd (upd fl1 (k + 1) _) k _ (k + (0 + 1)) = _
                rw [Nat.zero_add, upd_ne _ _ (by omega), upd_same]
              · intro j hj
                rw [List.length_drop] at hj
                show upd fs1 (k + 1) _ (k + (j + 1 + 1)) = fs (k + 1 + j) ∧ upd (upd fl1 (k + 1) _) k _ (k + (j + 1 + 1)) = fl (k + 1 + j)
                rw [upd_ne _ _ (by omega), upd_ne _ _ (by omega), upd_ne _ _ (by omega), show k + (j + 1 + 1) = (k + 1 + j) + 1 by omega]
                exact k2 (k + 1 + j) (by omega) (by omega)
          · rw [hlen2]
            exact m1
      · refine ifn (by rw [nn_lt (by omega) (by omega)]; exact e2) ?_
        have hpe : p - sz (P.take k) = 0 := by omega
        rw [hpe, cutL_zero, List.append_nil] at hs0
        rw [cutR_zero] at hs0
        refine ok_some ⟨?_, c, b, ?_, Up.refl _ _ _ _⟩
        · rw [hs0.1, List.length_take]
          show nn k = _
          congr 1
          omega
        · rw [hs0.1, hs0.2, List.take_append_drop]
          exact h
theorem cutAt_sp (h : LfS G c i r b P sgn mk st) (hw : wfP P) (hp : p ≤ sz P) (hz : sz P ≤ 3000) (hr : Rm G (b + d)) : ok (fX2_cutAt G r (nn p)) (CutQ G c i r b sgn p P mk st) := by
  unfold fX2_cutAt
  have hlen := len_le_sz hw
  exact cutAt_b4_sp h hw hp hz hr FU 0 (by omega) (by rw [FU_eq]; omega) (by simp [sz])
end Cut
