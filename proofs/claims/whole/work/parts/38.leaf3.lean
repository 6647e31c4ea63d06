/-! pieces put behind, all gone, taken over -/
theorem set_id {G : zH} {h : Nat} {e : zE} (h1 : G[h]? = some e) : G.set h e = G := by
  apply List.ext_getElem?
  intro j
  by_cases hj : h = j
  · subst hj
    rw [G_same h1, h1]
  · rw [List.getElem?_set_ne hj]
theorem fill_b5_sp {x : Int32} {h0 n : Nat} (hn : n ≤ 6000) : ∀ fu k G f, n - k < fu → k ≤ n → G[h0]? = some (.inl (0, (n, .inl f))) → fJ7_fill_53178_b5 fu G h0 x (nn k) (nn n) = some (G.set h0 (.inl (0, (n, .inl (fun j => if k ≤ j ∧ j < n then x else f j))))) := by
  intro fu
  induction fu with
  | zero => intro k G f h; omega
  | succ fu ih =>
    intro k G f hfu hk hG
    unfold fJ7_fill_53178_b5
    by_cases e : n ≤ k
    · rw [if_pos (by rw [nn_le (by omega) (by omega)]; exact e)]
      have : (fun j => if k ≤ j ∧ j < n then x else f j) = f := by
        funext j
        rw [if_neg (by omega)]
      rw [this, set_id hG]
    · rw [if_neg (by rw [nn_le (by omega) (by omega)]; exact e), aW_at hG (by omega) (by omega), ob1_some, q1, nn_add]
      show fJ7_fill_53178_b5 fu _ h0 x (nn (k + 1)) (nn n) = _
      rw [ih (k + 1) _ _ (by omega) (by omega) (G_same hG), List.set_set]
      congr 6
      funext j
      unfold upd
      by_cases e1 : k + 1 ≤ j ∧ j < n
      · rw [if_pos e1, if_pos (by omega)]
      · rw [if_neg e1]
        by_cases e2 : j = k
        · rw [if_pos e2, if_pos (by omega)]
        · rw [if_neg e2, if_neg (by omega)]
theorem fill_sp {x : Int32} {h0 n : Nat} {G : zH} {f : Nat → Int32} (hn : n ≤ 6000) (hG : G[h0]? = some (.inl (0, (n, .inl f)))) : fJ7_fill_53178 G h0 x = some (G.set h0 (.inl (0, (n, .inl (fun j => if j < n then x else f j))))) := by
  unfold fJ7_fill_53178
  rw [aL_at hG, ob1_some, q0, fill_b5_sp hn FU 0 G f (by rw [FU_eq]; omega) (by omega) hG]
  congr 6
  funext j
  by_cases e : j < n
  · rw [if_pos (by omega), if_pos e]
  · rw [if_neg (by omega), if_neg e]
section Leaf3
variable {G : zH} {c : Nat → Nat} {i r b d sgn p n : Nat} {P : PC} {mk : Nat → Int} {st : Nat → Nat}
theorem addPiece_sp (h : LfS G c i r b P sgn mk st) {s l : Nat} (hl : P.length + 1 ≤ 3000) (hr : Rm G (b + d)) : ok (fX2_addPiece G r (nn s) (nn l)) fun G' => ∃ c' b', LfS G' c' i r b' (P ++ [(s, l)]) (sgn + l) mk st ∧ Up i G c b G' c' b' := by
  obtain ⟨hs, hl, hm, ht, cap, fs, fl, fm, ft, h1, h2, h3, h4, h5, h6, h7⟩ := h
  unfold fX2_addPiece
  refine sa1 h1.n2 ?_
  refine sa1 h1.io ?_
  rw [q1]
  refine ca1 (openGap_sp (b := b) (d := d) (p := P.length) (n := 1) h1 (by omega) h4 (by omega) h5 h6 h7 hr) ?_
  rintro G1 ⟨c1, hs1, hl1, cap1, fs1, fl1, b1, r1, u1, bd1, m1, m2, m3, k1, k2⟩
  refine sa1 r1.f0 ?_
  refine sa1 r1.n2 ?_
  rw [nn_sub (show 1 ≤ P.length + 1 by omega), Nat.add_sub_cancel]
  obtain ⟨G2, e2, r2, u2⟩ := r1.wS (k := P.length) (nn s) b1 (by omega) m3
  refine sa1 e2 ?_
  refine sa1 r2.f1 ?_
  refine sa1 r2.n2 ?_
  rw [nn_sub (show 1 ≤ P.length + 1 by omega), Nat.add_sub_cancel]
  obtain ⟨G3, e3, r3, u3⟩ := r2.wL (k := P.length) (nn l) b1 (by omega) m3
  refine sa1 e3 ?_
  refine sa1 r3.n3 ?_
  rw [nn_add]
  obtain ⟨G4, e4, r4, u4⟩ := r3.s3 (nn (sgn + l)) b1
  refine sa1 e4 ?_
  rw [show P.length + 1 = (P ++ [(s, l)]).length by simp] at r4
  refine ok_some ⟨c1, b1, ⟨hs1, hl1, hm, ht, cap1, _, _, fm, ft, r4, ?_, h3, ?_, m2, m3, bd1⟩, ((u1.trans u2).trans u3).trans u4⟩
  · refine AL_app.mpr ⟨AL_congr h2 ?_, AL_cons.mpr ⟨⟨?_, ?_⟩, AL_nil _ _⟩⟩
    · intro k hk
      rw [upd_ne _ _ (by omega), upd_ne _ _ (by omega)]
      exact k1 k hk
    · exact upd_same _ _ _
    · exact upd_same _ _ _
  · rw [List.length_append]
    exact m1
theorem clear_sp (h : LfS G c i r b P sgn mk st) : ok (fX2_clear G r) fun G' => LfS G' c i r b [] 0 (fun _ => -1) st ∧ Up i G c b G' c b := by
  obtain ⟨hs, hl, hm, ht, cap, fs, fl, fm, ft, h1, h2, h3, h4, h5, h6, h7⟩ := h
  unfold fX2_clear
  rw [q0]
  obtain ⟨G1, e1, r1, u1⟩ := h1.s2 (nn 0) b
  refine sa1 e1 ?_
  obtain ⟨G2, e2, r2, u2⟩ := r1.s3 (nn 0) b
  refine sa1 e2 ?_
  refine sa1 r2.f4 ?_
  refine sa1 (fill_sp (x := -1) (by omega) r2.2.2.2.2.1) ?_
  refine ok_some ⟨⟨hs, hl, hm, ht, cap, fs, fl, _, ft, r2.setM _, AL_nil _ _, fun k hk => ⟨?_, fun h0 => absurd h0 (by show ¬ (0 : Int) ≤ -1; decide), (h3 k hk).2.2⟩, by simp, h5, h6, h7⟩, (u1.trans u2).trans (Up.set r2.2.2.2.2.1 rfl (by have := r2.1.2.2.2.1; omega))⟩
  show (if k < 8 then (-1 : Int32) else fm k) = _
  rw [if_pos hk]
  rfl
theorem setMark_sp (h : LfS G c i r b P sgn mk st) {k : Nat} {v : Int} {s : Nat} (hk : k < 8) (hs : s ≤ 1) : ok (fX2_setMark G r (nn k) (ii v) (nn s)) fun G' => LfS G' c i r b P sgn (va_up mk k v) (va_up st k s) ∧ Up i G c b G' c b := by
  obtain ⟨hs', hl, hm, ht, cap, fs, fl, fm, ft, h1, h2, h3, h4⟩ := h
  unfold fX2_setMark
  refine ifn (by rw [nn_neg (by omega)]; exact id) ?_
  refine ifn (by rw [q8, nn_le (by omega) (by omega)]; omega) ?_
  refine sa1 h1.f4 ?_
  obtain ⟨G1, e1, r1, u1⟩ := h1.wM (k := k) (ii v) b hk
  refine sa1 e1 ?_
  refine sa1 r1.f5 ?_
  obtain ⟨G2, e2, r2, u2⟩ := r1.wT (k := k) (vp_nar .boolean (nn s)) b hk
  refine sa1 e2 ?_
  refine ok_some ⟨⟨hs', hl, hm, ht, cap, fs, fl, _, _, r2, h2, fun j hj => ?_, h4⟩, u1.trans u2⟩
  have hb : vp_nar .boolean (nn s) = nn s := by
    have : s = 0 ∨ s = 1 := by omega
    rcases this with rfl | rfl <;> rfl
  by_cases e : j = k
  · subst e
    rw [upd_same, upd_same, va_up_same, va_up_same, hb]
    have h01 : s = 0 ∨ s = 1 := by omega
    exact ⟨rfl, fun _ => rfl, h01.imp (fun e => by rw [e]) (fun e => by rw [e])⟩
  · rw [upd_ne _ _ e, upd_ne _ _ e, va_up_ne _ _ e, va_up_ne _ _ e]
    exact h3 j hj
end Leaf3
/-! one leaf becomes as another is -/
theorem become_b58_sp {c : Nat → Nat} {i j r r1 hs hl hm ht cap hs1 hl1 hm1 ht1 cap1 b : Nat} {cnt sg cnt1 sg1 : Int32} {fs fl fs1 fl1 fm1 ft1 : Nat → Int32} (hij : j ≠ i) (hbz : ∀ k, k < 8 → vp_nar .boolean (ft1 k) = ft1 k) : ∀ fu k G fm ft, k ≤ 8 → 8 - k < fu → LfR G c i r hs hl hm ht cap cnt sg fs fl fm ft → LfR G c j r1 hs1 hl1 hm1 ht1 cap1 cnt1 sg1 fs1 fl1 fm1 ft1 → (∀ q, q < k → fm q = fm1 q ∧ ft q = ft1 q) → ok (fX2_become_b58 fu G r r1 (nn k)) fun G' => ∃ fm' ft', LfR G' c i r hs hl hm ht cap cnt sg fs fl fm' ft' ∧ (∀ q, q < 8 → fm' q = fm1 q ∧ ft' q = ft1 q) ∧ Up i G c b G' c b := by
  intro fu
  induction fu with
  | zero => intro k G fm ft _ h; omega
  | succ fu ih =>
    intro k G fm ft hk hfu h h' hq
    unfold fX2_become_b58
    by_cases e : 8 ≤ k
    · refine ift (by rw [q8, nn_le (by omega) (by omega)]; exact e) ?_
      exact ok_some ⟨fm, ft, h, fun q hq' => hq q (by omega), Up.refl _ _ _ _⟩
    · refine ifn (by rw [q8, nn_le (by omega) (by omega)]; exact e) ?_
      refine sa1 h.f4 ?_
      refine sa1 h'.f4 ?_
      refine sa1 (h'.rM (k := k) (by omega)) ?_
      obtain ⟨G1, e1, a1, u1⟩ := h.wM (k := k) (fm1 k) b (by omega)
      have a1' := h'.kept u1.1 hij
      refine sa1 e1 ?_
      refine sa1 a1.f5 ?_
      refine sa1 a1'.f5 ?_
      refine sa1 (a1'.rT (k := k) (by omega)) ?_
      rw [hbz k (by omega)]
      obtain ⟨G2, e2, a2, u2⟩ := a1.wT (k := k) (ft1 k) b (by omega)
      have a2' := a1'.kept u2.1 hij
      refine sa1 e2 ?_
      rw [q1, nn_add]
      refine zl ?_
      refine ok_imp (ih (k + 1) G2 _ _ (by omega) (by omega) a2 a2' ?_) ?_
      · intro q hq'
        by_cases e3 : q = k
        · subst e3
          rw [upd_same, upd_same]
          exact ⟨rfl, rfl⟩
        · rw [upd_ne _ _ e3, upd_ne _ _ e3]
          exact hq q (by omega)
      · rintro G3 ⟨f3, f4, b1, b2, b3⟩
        exact ⟨f3, f4, b1, b2, (u1.trans u2).trans b3⟩
theorem become_sp {G : zH} {c : Nat → Nat} {i j r r1 b b1 d sgn sgn1 : Nat} {P P1 : PC} {mk mk1 : Nat → Int} {st st1 : Nat → Nat} (h : LfS G c i r b P sgn mk st) (h' : LfS G c j r1 b1 P1 sgn1 mk1 st1) (hij : j ≠ i) (hst : ∀ k, k < 8 → st1 k ≤ 1) (hl1 : P1.length ≤ 3000) (hr : Rm G (b + d)) : ok (fX2_become G r r1) fun G' => ∃ c' b', LfS G' c' i r b' P1 sgn1 mk1 st1 ∧ Up i G c b G' c' b' := by
  obtain ⟨hs, hl, hm, ht, cap, fs, fl, fm, ft, a1, a2, a3, a4, a5, a6, a7⟩ := h
  obtain ⟨hs', hl', hm', ht', cap', fs', fl', fm', ft', b1', b2, b3, b4, b5, b6, b7⟩ := h'
  unfold fX2_become
  rw [q0]
  obtain ⟨G1, e1, r1', u1⟩ := a1.s2 (nn 0) b
  refine sa1 e1 ?_
  have o1 := b1'.kept u1.1 hij
  refine sa1 o1.n2 ?_
  refine sa1 r1'.io ?_
  refine ca1 (openGap_sp (b := b) (d := d) (p := 0) (m := 0) (n := P1.length) r1' (by omega) (by omega) (by omega) a5 a6 a7 (u1.rm hr)) ?_
  rintro G2 ⟨c2, hs2, hl2, cap2, fs2, fl2, bb, r2, u2, bd2, m1, m2, m3, k1, k2⟩
  rw [Nat.zero_add] at r2 m1
  have o2 := o1.kept u2.1 hij
  refine sa1 o2.f0 ?_
  refine sa1 r2.f0 ?_
  refine sa1 o2.n2 ?_
  obtain ⟨G3, e3, r3, u3⟩ := r2.cS (sp := 0) (dp := 0) (n := P1.length) bb o2.2.2.1 (by omega) (by omega) b6 m3
  refine sa1 e3 ?_
  have o3 := o2.kept u3.1 hij
  refine sa1 o3.f1 ?_
  refine sa1 r3.f1 ?_
  refine sa1 o3.n2 ?_
  obtain ⟨G4, e4, r4, u4⟩ := r3.cL (sp := 0) (dp := 0) (n := P1.length) bb o3.2.2.2.1 (by omega) (by omega) b6 m3
  refine sa1 e4 ?_
  have o4 := o3.kept u4.1 hij
  refine sa1 o4.n3 ?_
  obtain ⟨G5, e5, r5, u5⟩ := r4.s3 (nn sgn1) bb
  refine sa1 e5 ?_
  have o5 := o4.kept u5.1 hij
  refine ok_imp (become_b58_sp (b := bb) hij (fun k hk => ?_) FU 0 G5 _ _ (by omega) (by rw [FU_eq]; omega) r5 o5 (fun q hq => by omega)) ?_
  · rcases (b3 k hk).2.2 with e | e <;> rw [e] <;> rfl
  · rintro G6 ⟨f3, f4, g1, g2, g3⟩
    refine ⟨c2, bb, ⟨hs2, hl2, hm, ht, cap2, _, _, f3, f4, g1, ?_, ?_, m1, m2, m3, bd2⟩, ((((u1.trans u2).trans u3).trans u4).trans u5).trans g3⟩
    · refine AL_congr b2 ?_
      intro k hk
      unfold va_cpy
      rw [if_pos (by omega), if_pos (by omega), Nat.sub_zero, Nat.zero_add]
      exact ⟨rfl, rfl⟩
    · intro k hk
      rw [(g2 k hk).1, (g2 k hk).2]
      exact b3 k hk
