/-! pieces cut out, laid in -/
def part : PC → Nat → Nat → Nat → PC
  | [], _, _, _ => []
  | q :: t, b, p, e => if min e (b + q.2) ≤ max p b then part t (b + q.2) p e else (q.1 + max p b - b, min e (b + q.2) - max p b) :: part t (b + q.2) p e
theorem part_app (A B : PC) (b p e : Nat) : part (A ++ B) b p e = part A b p e ++ part B (b + sz A) p e := by
  induction A generalizing b with
  | nil => simp [part, sz]
  | cons q t ih =>
    simp only [List.cons_append, part, sz_cons]
    rw [ih, Nat.add_assoc]
    split <;> simp
theorem part_len (A : PC) (b p e : Nat) : (part A b p e).length ≤ A.length := by
  induction A generalizing b with
  | nil => simp [part]
  | cons q t ih =>
    have := ih (b + q.2)
    simp only [part]
    split <;> simp <;> omega
theorem part_none (A : PC) {b p e : Nat} (h : e ≤ b) : part A b p e = [] := by
  induction A generalizing b with
  | nil => rfl
  | cons q t ih =>
    simp only [part]
    rw [if_pos (by omega), ih (by omega)]
theorem part_max (A : PC) {b p e : Nat} (h : p ≤ b) : part A b p e = part A b b e := by
  have key : ∀ (A : PC) (b p p' : Nat), p ≤ b → p' ≤ b → part A b p e = part A b p' e := by
    intro A
    induction A with
    | nil => intros; rfl
    | cons q t ih =>
      intro b p p' h1 h2
      simp only [part]
      rw [ih (b + q.2) p p' (by omega) (by omega), show max p b = max p' b by omega]
  exact key A b p b h (Nat.le_refl _)
theorem part_cut {A : PC} (hw : wfP A) (b p n : Nat) : part A b (b + p) (b + p + n) = cutL (cutR A p) n := by
  induction A generalizing b p n with
  | nil => simp [part, cutR, cutL]
  | cons q t ih =>
    have hw1 := wfP_cons.mp hw
    have h2 := hw1.1
    by_cases h0 : p = 0
    · subst h0
      rw [cutR_zero]
      simp only [part, cutL, Nat.add_zero]
      by_cases h3 : n = 0
      · rw [if_pos h3, if_pos (by omega), part_none _ (by omega)]
      · rw [if_neg h3]
        by_cases h4 : n < q.2
        · rw [if_pos h4, if_neg (by omega), part_none _ (by omega)]
          congr 2 <;> omega
        · rw [if_neg h4, if_neg (by omega), part_max _ (by omega)]
          have := ih hw1.2 (b + q.2) 0 (n - q.2)
          rw [Nat.add_zero, cutR_zero, show b + q.2 + (n - q.2) = b + n by omega] at this
          rw [this]
          congr 2
          · omega
          · omega
    · by_cases h1 : p < q.2
      · simp only [part, cutR]
        rw [if_neg h0, if_pos h1]
        simp only [cutL]
        by_cases h3 : n = 0
        · rw [if_pos h3, if_pos (by omega), part_none _ (by omega)]
        · rw [if_neg h3, if_neg (by omega)]
          by_cases h4 : n < q.2 - p
          · rw [if_pos h4, part_none _ (by omega)]
            congr 2 <;> omega
          · rw [if_neg h4, part_max _ (by omega)]
            have := ih hw1.2 (b + q.2) 0 (n - (q.2 - p))
            rw [Nat.add_zero, cutR_zero, show b + q.2 + (n - (q.2 - p)) = b + p + n by omega] at this
            rw [this]
            congr 2
            · omega
            · omega
      · have e1 : cutR (q :: t) p = cutR t (p - q.2) := by
          simp only [cutR]
          rw [if_neg h0, if_neg h1]
        rw [e1]
        simp only [part]
        rw [if_pos (by omega)]
        have := ih hw1.2 (b + q.2) (p - q.2) n
        rw [show b + q.2 + (p - q.2) = b + p by omega] at this
        exact this
section Lay
variable {i j r rc p n : Nat} {P : PC} {mk mkc : Nat → Int} {st stc : Nat → Nat}
theorem becomePart_b10_sp {sgn bi d : Nat} (hij : i ≠ j) (hw : wfP P) (hz : sz P ≤ 3000) (hp : p + n ≤ 6000) (hpi : okP 1600 6000 P) : ∀ fu k G c b, k ≤ P.length → P.length - k < fu → Lf G c j rc b (part (P.take k) 0 p (p + n)) mkc stc → LfS G c i r bi P sgn mk st → Rm G (b + d) → ok (fX2_becomePart_b10 fu G rc r (nn p) (nn n) (nn (sz (P.take k))) (nn k)) fun G' => ∃ c' b', Lf G' c' j rc b' (part P 0 p (p + n)) mkc stc ∧ Up j G c b G' c' b' := by
  have hlen := len_le_sz hw
  intro fu
  induction fu with
  | zero => intro k G c b _ h; omega
  | succ fu ih =>
    intro k G c b hk hfu h1 h2 hr
    unfold fX2_becomePart_b10
    refine sa1 h2.n2 ?_
    by_cases e1 : P.length ≤ k
    · refine ift (by rw [nn_le (by omega) (by omega)]; exact e1) ?_
      have hk' : k = P.length := by omega
      subst hk'
      rw [List.take_length] at h1
      exact ok_some ⟨c, b, h1, Up.refl _ _ _ _⟩
    · have hkl : k < P.length := by omega
      obtain ⟨q, hq⟩ : ∃ q, P[k]? = some q := ⟨P[k], List.getElem?_eq_getElem hkl⟩
      have hdr := take_drop_cons hq
      have htk : P.take (k + 1) = P.take k ++ [q] := by
        rw [List.take_succ, hq]
        rfl
      have hts : sz (P.take (k + 1)) = sz (P.take k) + q.2 := by
        rw [htk, sz_app, sz_cons, sz_nil]
        omega
      have htl := sz_take_le P (k + 1)
      have hok := hpi q (List.mem_of_getElem? hq)
      unfold okQ at hok
      refine ifn (by rw [nn_le (by omega) (by omega)]; exact e1) ?_
      obtain ⟨hs, hl, hm, ht, cap, fs, fl, fm, ft, a1, a2, a3, a4, a5, a6, a7⟩ := id h2
      have hv := a2 k q hq
      rw [if_lt (by omega) (by omega), nn_if, show (if p < sz (P.take k) then sz (P.take k) else p) = max p (sz (P.take k)) by split <;> omega]
      refine zl ?_
      refine sa1 a1.f1 ?_
      refine sa1 (a1.rL (k := k) (by omega) a6) ?_
      rw [hv.2, nn_add, nn_add, if_lt (by omega) (by omega), nn_if, show (if sz (P.take k) + q.2 < p + n then sz (P.take k) + q.2 else p + n) = min (p + n) (sz (P.take k) + q.2) by split <;> omega]
      refine zl ?_
      have hpa : part (P.take (k + 1)) 0 p (p + n) = part (P.take k) 0 p (p + n) ++ part [q] (sz (P.take k)) p (p + n) := by
        rw [htk, part_app, Nat.zero_add]
      have adv : ∀ G' c' b', Lf G' c' j rc b' (part (P.take (k + 1)) 0 p (p + n)) mkc stc → Up j G c b G' c' b' → ok (fX2_becomePart_b74 (fX2_becomePart_b10 fu) G' rc r (nn p) (nn n) (nn (sz (P.take k))) (nn k)) fun G' => ∃ c' b', Lf G' c' j rc b' (part P 0 p (p + n)) mkc stc ∧ Up j G c b G' c' b' := by
        intro G' c' b' l1 u1
        have l2 := h2.kept u1.1 hij
        unfold fX2_becomePart_b74
        obtain ⟨hs', hl', hm', ht', cap', fs', fl', fm', ft', a1', a2', a3', a4', a5', a6', a7'⟩ := id l2
        refine sa1 a1'.f1 ?_
        refine sa1 (a1'.rL (k := k) (by omega) a6') ?_
        rw [(a2' k q hq).2, nn_add, q1, nn_add, ← hts]
        refine zl ?_
        refine zl ?_
        refine ok_imp (ih (k + 1) G' c' b' (by omega) (by omega) l1 l2 (u1.rm hr)) ?_
        rintro G2 ⟨c2, b2, x1, x2⟩
        exact ⟨c2, b2, x1, u1.trans x2⟩
      by_cases e2 : min (p + n) (sz (P.take k) + q.2) ≤ max p (sz (P.take k))
      · refine ift (by rw [nn_le (by omega) (by omega)]; exact e2) ?_
        refine adv G c b ?_ (Up.refl _ _ _ _)
        rw [hpa]
        simp only [part]
        rw [if_pos e2, List.append_nil]
        exact h1
      · refine ifn (by rw [nn_le (by omega) (by omega)]; exact e2) ?_
        refine sa1 a1.f0 ?_
        refine sa1 (a1.rS (k := k) (by omega) a6) ?_
        rw [hv.1, nn_add, nn_sub (by omega), nn_sub (by omega)]
        refine sa1 h1.io ?_
        refine ca1 (addPiece_sp (d := d) h1 (by have := part_len (P.take k) 0 p (p + n); rw [List.length_take] at this; omega) hr) ?_
        rintro G1 ⟨c1, b1, l1, u1⟩
        refine adv G1 c1 b1 ?_ u1
        have hpe : part (P.take (k + 1)) 0 p (p + n) = part (P.take k) 0 p (p + n) ++ [(q.1 + max p (sz (P.take k)) - sz (P.take k), min (p + n) (sz (P.take k) + q.2) - max p (sz (P.take k)))] := by
          rw [hpa]
          simp only [part]
          rw [if_neg e2]
        rw [hpe, Lf, sz_app, sz_cons, sz_nil, Nat.add_zero]
        exact l1
theorem becomePart_sp {G : zH} {c : Nat → Nat} {sgn sgc bi b d : Nat} {C : PC} (hij : i ≠ j) (hw : wfP P) (hz : sz P ≤ 3000) (hp : p + n ≤ 6000) (hpi : okP 1600 6000 P) (h1 : LfS G c j rc b C sgc mkc stc) (h2 : LfS G c i r bi P sgn mk st) (hr : Rm G (b + d)) : ok (fX2_becomePart G rc r (nn p) (nn n)) fun G' => ∃ c' b', Lf G' c' j rc b' (cutL (cutR P p) n) (fun _ => -1) stc ∧ Up j G c b G' c' b' := by
  have hlen := len_le_sz hw
  unfold fX2_becomePart
  refine sa1 h1.io ?_
  refine ca1 (clear_sp h1) ?_
  rintro G1 ⟨l1, u1⟩
  rw [q0]
  refine ok_imp (becomePart_b10_sp (p := p) (n := n) hij hw hz hp hpi FU 0 G1 c b (by omega) (by rw [FU_eq]; omega) l1 (h2.kept u1.1 hij) (u1.rm hr)) ?_
  rintro G2 ⟨c2, b2, x1, x2⟩
  have := part_cut hw 0 p n
  rw [Nat.zero_add] at this
  rw [this] at x1
  exact ⟨c2, b2, x1, u1.trans x2⟩
theorem layPieces_sp {G : zH} {c : Nat → Nat} {bi b d q : Nat} {C : PC} (hij : i ≠ j) (hw : wfP P) (hz : sz P + sz C ≤ 3000) (hwc : wfP C) (hq : q ≤ sz P) (h1 : Lf G c j rc b C mkc stc) (h2 : Lf G c i r bi P mk st) (hr : Rm G (bi + d)) : ok (fX2_layPieces G r rc (nn q)) fun G' => ∃ c' b', Lf G' c' i r b' (cutL P q ++ (C ++ cutR P q)) mk st ∧ Up i G c bi G' c' b' := by
  have hwx : wfP (cutL P q ++ cutR P q) := wfP_app.mpr ⟨wf_cutL hw, wf_cutR hw⟩
  have hlc := len_le_sz hwx
  rw [sz_app, sz_cutL hq, sz_cutR hq, List.length_append] at hlc
  have hlC := len_le_sz hwc
  unfold fX2_layPieces
  refine sa1 h2.io ?_
  refine ca2 (cutAt_sp (d := d) h2 hw (p := q) hq (by omega) hr) ?_
  rintro v G1 ⟨hv, c1, b1, l1, u1⟩
  change v = _ at hv
  subst hv
  change LfS G1 c1 i r b1 _ _ mk st at l1
  change Up i G c bi G1 c1 b1 at u1
  have k1 := h1.kept u1.1 (Ne.symm hij)
  refine sa1 k1.n2 ?_
  refine sa1 l1.io ?_
  obtain ⟨hs, hl, hm', ht, cap, fs, fl, fm, ft, a1, a2, a3, a4, a5, a6, a7⟩ := l1
  refine ca1 (openGap_sp (b := b1) (d := d) (p := (cutL P q).length) (n := C.length) a1 (by simp) a4 (by rw [List.length_append]; omega) a5 a6 a7 (u1.rm hr)) ?_
  rintro G2 ⟨c2, hs2, hl2, cap2, fs2, fl2, b2, r2, u2, bd2, m1, m2, m3, g1, g2⟩
  rw [List.length_append] at m1 g2
  obtain ⟨xs, xl, xm, xt, xcap, ys, yl, ym, yt, z1, z2, z3, z4, z5, z6, z7⟩ := k1.kept u2.1 (Ne.symm hij)
  refine sa1 z1.f0 ?_
  refine sa1 r2.f0 ?_
  refine sa1 z1.n2 ?_
  rw [q0]
  obtain ⟨G3, e3, r3, u3⟩ := r2.cS (sp := 0) (dp := (cutL P q).length) (n := C.length) b2 z1.2.2.1 (by omega) (by omega) z6 m3
  refine sa1 e3 ?_
  have z1' := z1.kept u3.1 (Ne.symm hij)
  refine sa1 z1'.f1 ?_
  refine sa1 r3.f1 ?_
  refine sa1 z1'.n2 ?_
  obtain ⟨G4, e4, r4, u4⟩ := r3.cL (sp := 0) (dp := (cutL P q).length) (n := C.length) b2 z1'.2.2.2.1 (by omega) (by omega) z6 m3
  refine sa1 e4 ?_
  have z1'' := z1'.kept u4.1 (Ne.symm hij)
  refine sa1 r4.n3 ?_
  refine sa1 z1''.n3 ?_
  rw [nn_add]
  obtain ⟨G5, e5, r5, u5⟩ := r4.s3 (nn (sz P + sz C)) b2
  refine sa1 e5 ?_
  have hle : (cutL P q ++ cutR P q).length + C.length = (cutL P q ++ (C ++ cutR P q)).length := by
    simp
    omega
  have hse : sz P + sz C = sz (cutL P q ++ (C ++ cutR P q)) := by
    rw [sz_app, sz_app, sz_cutL hq, sz_cutR hq]
    omega
  rw [hle, hse] at r5
  refine ok_some ⟨c2, b2, ⟨hs2, hl2, hm', ht, cap2, _, _, fm, ft, r5, ?_, a3, ?_, m2, m3, bd2⟩, (((u1.trans u2).trans u3).trans u4).trans u5⟩
  · have a2' := AL_app.mp a2
    refine AL_app.mpr ⟨AL_congr a2'.1 ?_, AL_app.mpr ⟨AL_congr z2 ?_, AL_congr a2'.2 ?_⟩⟩
    · intro k hk
      unfold va_cpy
      rw [if_neg (by omega), if_neg (by omega)]
      exact g1 k hk
    · intro k hk
      show va_cpy ys fs2 0 _ _ (_ + k) = _ ∧ va_cpy yl fl2 0 _ _ (_ + k) = _
      unfold va_cpy
      rw [if_pos (by omega), if_pos (by omega), Nat.zero_add, Nat.add_sub_cancel_left]
      exact ⟨rfl, rfl⟩
    · intro k hk
      show va_cpy ys fs2 0 _ _ (_ + (_ + k)) = _ ∧ va_cpy yl fl2 0 _ _ (_ + (_ + k)) = _
      unfold va_cpy
      rw [if_neg (by omega), if_neg (by omega), show (cutL P q).length + (C.length + k) = (cutL P q).length + k + C.length by omega]
      exact g2 ((cutL P q).length + k) (by omega) (by omega)
  · rw [← hle, List.length_append]
    exact m1
def layP (P : PC) (p n q : Nat) : PC := cutL P q ++ (cutL (cutR P p) n ++ cutR P q)
def movP (P : PC) (p n g : Nat) : PC := cutL (takP P p n) g ++ (cutL (cutR P p) n ++ cutR (takP P p n) g)
theorem lay_sp {G : zH} {c : Nat → Nat} {sgc bi b d q : Nat} {C : PC} (hij : i ≠ j) (hw : wfP P) (hz : sz P + n ≤ 3000) (hp : p + n ≤ sz P) (hq : q ≤ sz P) (hpi : okP 1600 6000 P) (hm : bdM mk st (sz P)) (h1 : LfS G c j rc b C sgc mkc stc) (h2 : Lf G c i r bi P mk st) (hr : Rm G (bi + b + d)) : ok (fX2_lay G r (nn p) (nn n) (nn q) rc) fun G' => ∃ c1 G1 b1 c' b' , Lf G' c' i r b' (layP P p n q) (comeM q n mk st) st ∧ Up j G c b G1 c1 b1 ∧ Up i G1 c1 bi G' c' b' ∧ Lf G' c' j rc b1 (cutL (cutR P p) n) (fun _ => -1) stc := by
  unfold fX2_lay
  refine sa1 h1.io ?_
  refine ca1 (becomePart_sp (p := p) (n := n) (d := bi + d) hij hw (by omega) (by omega) hpi h1 h2 (by rw [show b + (bi + d) = bi + b + d by omega]; exact hr)) ?_
  rintro G1 ⟨c1, b1, l1, u1⟩
  have k2 := h2.kept u1.1 hij
  refine sa1 k2.io ?_
  have hsc : sz (cutL (cutR P p) n) = n := sz_cutL (by rw [sz_cutR (by omega)]; omega)
  have hr1 : Rm G1 (bi + (b1 + d)) := by
    have := u1.rm (d := bi + d) (by rw [show b + (bi + d) = bi + b + d by omega]; exact hr)
    rw [show bi + (b1 + d) = b1 + (bi + d) by omega]
    exact this
  refine ca1 (layPieces_sp (q := q) (d := b1 + d) hij hw (by rw [hsc]; omega) (wf_cutL (wf_cutR hw)) hq l1 k2 hr1) ?_
  rintro G2 ⟨c2, b2, l2, u2⟩
  refine sa1 l2.io ?_
  refine ca1 (marksGoOn_sp (p := q) (n := n) l2 hm (by omega) (by omega) (by omega)) ?_
  rintro G3 ⟨l3, u3⟩
  exact ok_some ⟨c1, G1, b1, c2, b2, l3, u1, u2.trans u3, (l1.kept u2.1 (Ne.symm hij)).kept u3.1 (Ne.symm hij)⟩
theorem move_sp {G : zH} {c : Nat → Nat} {sgc bi b d g : Nat} {C : PC} (hij : i ≠ j) (hw : wfP P) (hz : sz P ≤ 3000) (hp : p + n ≤ sz P) (hg : g + n ≤ sz P) (hpi : okP 1600 6000 P) (hm : bdM mk st (sz P)) (h1 : LfS G c j rc b C sgc mkc stc) (h2 : Lf G c i r bi P mk st) (hr : Rm G (bi + b + d)) : ok (fX2_move G r (nn p) (nn n) (nn g) rc) fun G' => ∃ c1 G1 b1 c' b', Lf G' c' i r b' (movP P p n g) (movM p n g mk st) st ∧ Up j G c b G1 c1 b1 ∧ Up i G1 c1 bi G' c' b' ∧ Lf G' c' j rc b1 (cutL (cutR P p) n) (fun _ => -1) stc := by
  unfold fX2_move
  refine sa1 h1.io ?_
  refine ca1 (becomePart_sp (p := p) (n := n) (d := bi + d) hij hw (by omega) (by omega) hpi h1 h2 (by rw [show b + (bi + d) = bi + b + d by omega]; exact hr)) ?_
  rintro G1 ⟨c1, b1, l1, u1⟩
  have k2 := h2.kept u1.1 hij
  refine sa1 k2.io ?_
  have hsc : sz (cutL (cutR P p) n) = n := sz_cutL (by rw [sz_cutR (by omega)]; omega)
  have hr1 : Rm G1 (bi + (b1 + d)) := by
    have := u1.rm (d := bi + d) (by rw [show b + (bi + d) = bi + b + d by omega]; exact hr)
    rw [show bi + (b1 + d) = b1 + (bi + d) by omega]
    exact this
  refine ca1 (dropSigns_sp (d := b1 + d) k2 hw hp hz hr1) ?_
  rintro G2 ⟨c2, b2, l2, u2⟩
  refine sa1 l2.io ?_
  have l1' := l1.kept u2.1 (Ne.symm hij)
  refine ca1 (layPieces_sp (q := g) (d := b1 + d) hij (wf_takP hw) (by rw [hsc, sz_takP hp]; omega) (wf_cutL (wf_cutR hw)) (by rw [sz_takP hp]; omega) l1' l2 (u2.rm hr1)) ?_
  rintro G3 ⟨c3, b3, l3, u3⟩
  refine sa1 l3.io ?_
  refine ca1 (marksMove_sp (p := p) (n := n) (g := g) l3 hm (by omega) (by omega) (by omega) (by omega)) ?_
  rintro G4 ⟨l4, u4⟩
  exact ok_some ⟨c1, G1, b1, c3, b3, l4, u1, (u2.trans u3).trans u4, (l1'.kept u3.1 (Ne.symm hij)).kept u4.1 (Ne.symm hij)⟩
end Lay
