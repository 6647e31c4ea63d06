/-! borders -/
abbrev gon (q q' : Nat × Nat) : Prop := (if 1600 ≤ q.1 then 1 else 0) = (if 1600 ≤ q'.1 then (1 : Nat) else 0) ∧ q.1 + q.2 = q'.1
def brdK (P : PC) : Nat → Nat
  | 0 => 0
  | k + 1 => brdK P k + match P[k - 1]?, P[k]? with
    | some q, some q' => if 1 ≤ k ∧ gon q q' then 1 else 0
    | _, _ => 0
theorem brdK_le (P : PC) (k : Nat) : brdK P k ≤ k := by
  induction k with
  | zero => simp [brdK]
  | succ k ih =>
    simp only [brdK]
    split
    · split <;> omega
    · omega
def healA : PC → PC → PC
  | R, [] => R
  | R, q :: t => match R.getLast? with
    | some l => if gon l q then healA (R.dropLast ++ [(l.1, l.2 + q.2)]) t else healA (R ++ [q]) t
    | none => healA (R ++ [q]) t
def healP (P : PC) : PC := healA [] P
theorem healA_len (R t : PC) : (healA R t).length ≤ R.length + t.length := by
  induction t generalizing R with
  | nil => simp [healA]
  | cons q t ih =>
    unfold healA
    split
    · split
      · refine Nat.le_trans (ih _) ?_
        simp
        omega
      · refine Nat.le_trans (ih _) ?_
        simp
        omega
    · refine Nat.le_trans (ih _) ?_
      simp
      omega
theorem healA_sz (R t : PC) : sz (healA R t) = sz R + sz t := by
  induction t generalizing R with
  | nil => simp [healA, sz]
  | cons q t ih =>
    unfold healA
    split
    · rename_i l hl
      split
      · rw [ih, sz_app, sz_cons, sz_nil, sz_cons]
        have := congrArg sz (last_split hl)
        rw [sz_app, sz_cons, sz_nil] at this
        show sz R.dropLast + (l.2 + q.2 + 0) + sz t = _
        omega
      · rw [ih, sz_app, sz_cons, sz_nil, sz_cons]
        omega
    · rw [ih, sz_app, sz_cons, sz_nil, sz_cons]
      omega
theorem okQ_join {on an : Nat} {l q : Nat × Nat} (hon : on ≤ 1600) (hl : okQ on an l) (hq : okQ on an q) (h : gon l q) : okQ on an (l.1, l.2 + q.2) := by
  unfold okQ at *
  obtain ⟨h1, h2⟩ := h
  show 1 ≤ l.2 + q.2 ∧ (l.1 + (l.2 + q.2) ≤ on ∨ (1600 ≤ l.1 ∧ l.1 + (l.2 + q.2) ≤ 1600 + an))
  by_cases e1 : 1600 ≤ l.1
  · rw [if_pos e1] at h1
    by_cases e2 : 1600 ≤ q.1
    · omega
    · rw [if_neg e2] at h1
      omega
  · rw [if_neg e1] at h1
    by_cases e2 : 1600 ≤ q.1
    · rw [if_pos e2] at h1
      omega
    · omega
theorem healA_ok {on an : Nat} (hon : on ≤ 1600) (R t : PC) (hR : okP on an R) (ht : okP on an t) : okP on an (healA R t) := by
  induction t generalizing R with
  | nil => exact hR
  | cons q t ih =>
    have ht' := okP_cons.mp ht
    unfold healA
    split
    · rename_i l hl
      have hs := last_split hl
      rw [hs] at hR
      have hR' := okP_app.mp hR
      split
      · rename_i hg
        exact ih _ (okP_app.mpr ⟨hR'.1, okP_cons.mpr ⟨okQ_join hon (okP_cons.mp hR'.2).1 ht'.1 hg, okP_nil⟩⟩) ht'.2
      · refine ih _ ?_ ht'.2
        rw [hs]
        exact okP_app.mpr ⟨hR, okP_cons.mpr ⟨ht'.1, okP_nil⟩⟩
    · exact ih _ (okP_app.mpr ⟨hR, okP_cons.mpr ⟨ht'.1, okP_nil⟩⟩) ht'.2
section Heal
variable {G : zH} {c : Nat → Nat} {i r hs hl hm ht cap : Nat} {cnt sg : Int32} {fs fl fm ft : Nat → Int32}
theorem goOn_sp (h : LfR G c i r hs hl hm ht cap cnt sg fs fl fm ft) (hc : cap ≤ 3000) {a b : Nat} {q q' : Nat × Nat} (ha : a < cap) (hb : b < cap) (hq : fs a = nn q.1 ∧ fl a = nn q.2) (hq' : fs b = nn q'.1 ∧ fl b = nn q'.2) (kq : q.1 + q.2 ≤ 7600) (kq' : q'.1 + q'.2 ≤ 7600) : fX2_goOn G r (nn a) (nn b) = some (nn (if gon q q' then 1 else 0)) := by
  unfold fX2_goOn
  rw [h.f0, ob1_some, h.rS ha hc, ob1_some, hq.1, storeOf_nn (by omega), ob1_some, ob1_some, h.rS hb hc, ob1_some, hq'.1, storeOf_nn (by omega), ob1_some, if_eq (by split <;> omega) (by split <;> omega)]
  by_cases e1 : (if 1600 ≤ q.1 then 1 else 0) = (if 1600 ≤ q'.1 then (1 : Nat) else 0)
  · rw [if_pos e1, ob1_some, h.rS ha hc, ob1_some, h.f1, ob1_some, h.rL ha hc, ob1_some, ob1_some, h.rS hb hc, ob1_some, hq.1, hq.2, hq'.1, nn_add, if_eq (by omega) (by omega)]
    by_cases e2 : q.1 + q.2 = q'.1
    · rw [if_pos e2, if_pos ⟨e1, e2⟩]
      rfl
    · rw [if_neg e2, if_neg (fun x => e2 x.2)]
      rfl
  · rw [if_neg e1, if_neg (fun x => e1 x.1)]
    rfl
theorem joinPieces_b4_sp {P : PC} {on an b : Nat} (hon : on ≤ 1600) (han : an ≤ 6000) (hP : okP on an P) (hc : cap ≤ 3000) (hPc : P.length ≤ cap) : ∀ fu k G fs fl R, R.length ≤ k → k ≤ P.length → P.length - k < fu → okP on an R → AL fs fl R → (∀ j q, k ≤ j → P[j]? = some q → fs j = nn q.1 ∧ fl j = nn q.2) → LfR G c i r hs hl hm ht cap (nn P.length) sg fs fl fm ft → ok (fX2_joinPieces_b4 fu G r (nn R.length) (nn k)) fun z => z.1 = nn (P.length - (healA R (P.drop k)).length) ∧ ∃ fs' fl', LfR z.2 c i r hs hl hm ht cap (nn (healA R (P.drop k)).length) sg fs' fl' fm ft ∧ AL fs' fl' (healA R (P.drop k)) ∧ Up i G c b z.2 c b := by
  intro fu
  induction fu with
  | zero => intro k G fs fl R _ _ h; omega
  | succ fu ih =>
    intro k G fs fl R hRk hk hfu hR hAL hrest h
    unfold fX2_joinPieces_b4
    refine sa1 h.n2 ?_
    by_cases e1 : P.length ≤ k
    · refine ift (by rw [nn_le (by omega) (by omega)]; exact e1) ?_
      have hk' : k = P.length := by omega
      subst hk'
      rw [List.drop_length]
      simp only [healA]
      unfold fX2_joinPieces_b80
      refine sa1 h.n2 ?_
      rw [nn_sub hRk]
      refine zl ?_
      obtain ⟨G1, e1', r1, u1⟩ := h.s2 (nn R.length) b
      refine sa1 e1' ?_
      exact ok_some ⟨rfl, fs, fl, r1, hAL, u1⟩
    · have hkl : k < P.length := by omega
      obtain ⟨q, hq⟩ : ∃ q, P[k]? = some q := ⟨P[k], List.getElem?_eq_getElem hkl⟩
      have hdr := take_drop_cons hq
      have hqv := hrest k q (Nat.le_refl _) hq
      have hqk := hP q (List.mem_of_getElem? hq)
      refine ifn (by rw [nn_le (by omega) (by omega)]; exact e1) ?_
      have r47 : healA R (P.drop k) = healA (R ++ [q]) (P.drop (k + 1)) → ok (fX2_joinPieces_b47 (fX2_joinPieces_b4 fu) G r (nn R.length) (nn k)) fun z => z.1 = nn (P.length - (healA R (P.drop k)).length) ∧ ∃ fs' fl', LfR z.2 c i r hs hl hm ht cap (nn (healA R (P.drop k)).length) sg fs' fl' fm ft ∧ AL fs' fl' (healA R (P.drop k)) ∧ Up i G c b z.2 c b := by
        intro he
        unfold fX2_joinPieces_b47
        refine sa1 h.f0 ?_
        refine sa1 h.f0 ?_
        refine sa1 (h.rS (k := k) (by omega) hc) ?_
        obtain ⟨G1, e1', r1, u1⟩ := h.wS (k := R.length) (fs k) b (by omega) hc
        refine sa1 e1' ?_
        refine sa1 r1.f1 ?_
        refine sa1 r1.f1 ?_
        refine sa1 (r1.rL (k := k) (by omega) hc) ?_
        obtain ⟨G2, e2', r2, u2⟩ := r1.wL (k := R.length) (fl k) b (by omega) hc
        refine sa1 e2' ?_
        rw [q1, nn_add]
        refine zl ?_
        unfold fX2_joinPieces_b74
        rw [q1, nn_add]
        refine zl ?_
        have hl1 : (R ++ [q]).length = R.length + 1 := by simp
        have := ih (k + 1) G2 _ _ (R ++ [q]) (by omega) (by omega) (by omega) (okP_app.mpr ⟨hR, okP_cons.mpr ⟨hqk, okP_nil⟩⟩) (AL_app.mpr ⟨AL_congr hAL (fun j hj => by rw [upd_ne _ _ (by omega), upd_ne _ _ (by omega)]; exact ⟨rfl, rfl⟩), AL_cons.mpr ⟨⟨(upd_same _ _ _).trans hqv.1, (upd_same _ _ _).trans hqv.2⟩, AL_nil _ _⟩⟩) (fun j q' hj hq' => by rw [upd_ne _ _ (by omega), upd_ne _ _ (by omega)]; exact hrest j q' (by omega) hq') r2
        rw [hl1, ← he] at this
        refine ok_imp this ?_
        rintro z ⟨x1, fs', fl', x2, x3, x4⟩
        exact ⟨x1, fs', fl', x2, x3, (u1.trans u2).trans x4⟩
      by_cases e2 : R.length = 0
      · refine ift (by rw [q0, nn_le (by omega) (by omega)]; omega) ?_
        refine r47 ?_
        rw [hdr, List.length_eq_zero_iff.mp e2]
        rfl
      · refine ifn (by rw [q0, nn_le (by omega) (by omega)]; omega) ?_
        refine sa1 h.io ?_
        obtain ⟨l, hl'⟩ : ∃ l, R.getLast? = some l := by
          have hne : R ≠ [] := fun e => e2 (by rw [e]; rfl)
          exact ⟨_, List.getLast?_eq_getLast hne⟩
        have hsp := last_split hl'
        have hll : R[R.length - 1]? = some l := by rw [← List.getLast?_eq_getElem?]; exact hl'
        have hlv := hAL _ l hll
        have hlk := hR l (List.mem_of_getElem? hll)
        rw [q1, nn_sub (show 1 ≤ R.length by omega)]
        refine sa1 (goOn_sp h hc (a := R.length - 1) (b := k) (by omega) (by omega) hlv hqv (by unfold okQ at hlk; omega) (by unfold okQ at hqk; omega)) ?_
        by_cases e3 : gon l q
        · refine ifn (by rw [q0, if_pos e3, nn_eq (by omega) (by omega)]; omega) ?_
          refine sa1 h.f1 ?_
          refine sa1 (h.rL (k := R.length - 1) (by omega) hc) ?_
          refine sa1 h.f1 ?_
          refine sa1 (h.rL (k := k) (by omega) hc) ?_
          rw [hlv.2, hqv.2, nn_add]
          obtain ⟨G1, e1', r1, u1⟩ := h.wL (k := R.length - 1) (nn (l.2 + q.2)) b (by omega) hc
          refine sa1 e1' ?_
          unfold fX2_joinPieces_b74
          rw [q1, nn_add]
          refine zl ?_
          have he : healA R (P.drop k) = healA (R.dropLast ++ [(l.1, l.2 + q.2)]) (P.drop (k + 1)) := by
            rw [hdr, healA, hl']
            show (if gon l q then _ else _) = _
            rw [if_pos e3]
          have hl1 : (R.dropLast ++ [(l.1, l.2 + q.2)]).length = R.length := by
            simp
            omega
          have hdl : R.dropLast.length = R.length - 1 := List.length_dropLast
          have hR2 := hR
          rw [hsp] at hR2
          have hAL2 := hAL
          rw [hsp] at hAL2
          have hAL3 := AL_app.mp hAL2
          have := ih (k + 1) G1 _ _ (R.dropLast ++ [(l.1, l.2 + q.2)]) (by omega) (by omega) (by omega) (okP_app.mpr ⟨(okP_app.mp hR2).1, okP_cons.mpr ⟨okQ_join hon hlk hqk e3, okP_nil⟩⟩) (AL_app.mpr ⟨AL_congr hAL3.1 (fun j hj => by rw [upd_ne _ _ (by omega)]; exact ⟨rfl, rfl⟩), AL_cons.mpr ⟨⟨by rw [hdl]; exact hlv.1, by rw [hdl]; exact upd_same _ _ _⟩, AL_nil _ _⟩⟩) (fun j q' hj hq' => by rw [upd_ne _ _ (by omega)]; exact hrest j q' (by omega) hq') r1
          rw [hl1, ← he] at this
          refine ok_imp this ?_
          rintro z ⟨x1, fs', fl', x2, x3, x4⟩
          exact ⟨x1, fs', fl', x2, x3, u1.trans x4⟩
        · refine ift (by rw [q0, if_neg e3]) ?_
          refine r47 ?_
          rw [hdr, healA, hl']
          show (if gon l q then _ else _) = _
          rw [if_neg e3]
theorem joinPieces_sp {P : PC} {on an b r : Nat} {mk : Nat → Int} {st : Nat → Nat} (hon : on ≤ 1600) (han : an ≤ 6000) (hP : okP on an P) (hz : sz P ≤ 3000) (h : Lf G c i r b P mk st) : ok (fX2_joinPieces G r) fun z => z.1 = nn (P.length - (healP P).length) ∧ Lf z.2 c i r b (healP P) mk st ∧ Up i G c b z.2 c b := by
  have hlen := len_le_sz (okP_wf hP)
  obtain ⟨hs, hl, hm, ht, cap, fs, fl, fm, ft, a1, a2, a3, a4, a5, a6, a7⟩ := h
  unfold fX2_joinPieces
  rw [q0]
  have := joinPieces_b4_sp (b := b) hon han hP a6 a4 FU 0 G fs fl [] (by simp) (by omega) (by rw [FU_eq]; omega) okP_nil (AL_nil _ _) (fun j q _ hq => a2 j q hq) a1
  rw [List.drop_zero] at this
  refine ok_imp this ?_
  rintro z ⟨x1, fs', fl', x2, x3, x4⟩
  have hsz : sz (healP P) = sz P := by
    unfold healP
    rw [healA_sz, sz_nil, Nat.zero_add]
  refine ⟨x1, ⟨hs, hl, hm, ht, cap, fs', fl', fm, ft, ?_, x3, a3, ?_, a5, a6, a7⟩, x4⟩
  · rw [hsz]
    exact x2
  · have := healA_len [] P
    simp at this
    show (healA [] P).length ≤ cap
    omega
theorem bordersToHeal_b4_sp {P : PC} (hP : okP 1600 6000 P) (hc : cap ≤ 3000) (hPc : P.length ≤ cap) (hAL : AL fs fl P) (h : LfR G c i r hs hl hm ht cap (nn P.length) sg fs fl fm ft) : ∀ fu k, 1 ≤ k → k ≤ P.length + 1 → P.length + 1 - k < fu → (P.length < k → k = 1) → fX2_bordersToHeal_b4 G fu r (nn (brdK P k)) (nn k) = some (nn (brdK P (max P.length 1))) := by
  intro fu
  induction fu with
  | zero => intro k _ _ h; omega
  | succ fu ih =>
    intro k hk1 hk hfu hk3
    unfold fX2_bordersToHeal_b4
    have hbl := brdK_le P k
    rw [h.n2, ob1_some, if_le (by omega) (by omega)]
    by_cases e1 : P.length ≤ k
    · rw [if_pos e1, show max P.length 1 = k by omega]
    · rw [if_neg e1, h.io, ob1_some, q1, nn_sub hk1]
      obtain ⟨q, hq⟩ : ∃ q, P[k - 1]? = some q := ⟨P[k - 1], List.getElem?_eq_getElem (by omega)⟩
      obtain ⟨q', hq'⟩ : ∃ q, P[k]? = some q := ⟨P[k], List.getElem?_eq_getElem (by omega)⟩
      have o1 := hP q (List.mem_of_getElem? hq)
      have o2 := hP q' (List.mem_of_getElem? hq')
      unfold okQ at o1 o2
      have hs : brdK P (k + 1) = brdK P k + if gon q q' then 1 else 0 := by
        simp only [brdK]
        rw [hq, hq']
        show brdK P k + (if 1 ≤ k ∧ gon q q' then 1 else 0) = _
        by_cases e : gon q q'
        · rw [if_pos e, if_pos ⟨hk1, e⟩]
        · rw [if_neg e, if_neg (fun x => e x.2)]
      rw [goOn_sp h hc (by omega) (by omega) (hAL _ q hq) (hAL _ q' hq') (by omega) (by omega), ob1_some, q0]
      by_cases e2 : gon q q'
      · rw [if_pos e2] at hs ⊢
        rw [if_neg (by rw [nn_eq (by omega) (by omega)]; omega), nn_add]
        show fX2_bordersToHeal_b26 G (fX2_bordersToHeal_b4 G fu) r (nn (brdK P k + 1)) (nn k) = _
        unfold fX2_bordersToHeal_b26
        rw [q1, nn_add, ← hs]
        exact ih (k + 1) (by omega) (by omega) (by omega) (by omega)
      · rw [if_neg e2] at hs ⊢
        rw [if_pos rfl]
        unfold fX2_bordersToHeal_b26
        rw [q1, nn_add, show brdK P k = brdK P (k + 1) by omega]
        exact ih (k + 1) (by omega) (by omega) (by omega) (by omega)
theorem bordersToHeal_sp {P : PC} {b sgn r : Nat} {mk : Nat → Int} {st : Nat → Nat} (hP : okP 1600 6000 P) (h : LfS G c i r b P sgn mk st) : fX2_bordersToHeal G r = some (nn (brdK P P.length)) := by
  obtain ⟨hs, hl, hm, ht, cap, fs, fl, fm, ft, a1, a2, a3, a4, a5, a6, a7⟩ := h
  unfold fX2_bordersToHeal
  rw [q0, q1]
  have := bordersToHeal_b4_sp hP a6 a4 a2 a1 FU 1 (by omega) (by omega) (by rw [FU_eq]; omega) (by omega)
  have b1 : brdK P 1 = 0 := by
    simp only [brdK]
    split
    · rw [if_neg (by omega)]
    · rfl
  rw [b1] at this
  rw [this]
  by_cases e : P.length = 0
  · rw [e, show max 0 1 = 1 by omega, b1]
    rfl
  · rw [show max P.length 1 = P.length by omega]
/-! other questions of a leaf -/
def stK (P : PC) (s : Nat) : Nat → Nat
  | 0 => 0
  | k + 1 => stK P s k + match P[k]? with
    | some q => if (if 1600 ≤ q.1 then 1 else 0) = s then 1 else 0
    | none => 0
theorem stK_le (P : PC) (s k : Nat) : stK P s k ≤ k := by
  induction k with
  | zero => simp [stK]
  | succ k ih =>
    simp only [stK]
    split
    · rename_i q _
      by_cases e : (if 1600 ≤ q.1 then 1 else 0) = s
      · rw [if_pos e]; omega
      · rw [if_neg e]; omega
    · omega
theorem piecesOf_sp {P : PC} {b sgn r s : Nat} {mk : Nat → Int} {st : Nat → Nat} (hs : s ≤ 1) (hP : okP 1600 6000 P) (h : LfS G c i r b P sgn mk st) : fX2_piecesOf G r (nn s) = some (nn (stK P s P.length)) := by
  obtain ⟨hs', hl, hm, ht, cap, fs, fl, fm, ft, a1, a2, a3, a4, a5, a6, a7⟩ := h
  unfold fX2_piecesOf
  rw [q0]
  have key : ∀ fu k, k ≤ P.length → P.length - k < fu → fX2_piecesOf_b4 G fu r (nn s) (nn (stK P s k)) (nn k) = some (nn (stK P s P.length)) := by
    intro fu
    induction fu with
    | zero => intro k _ h; omega
    | succ fu ih =>
      intro k hk hfu
      unfold fX2_piecesOf_b4
      have := stK_le P s k
      rw [a1.n2, ob1_some, if_le (by omega) (by omega)]
      by_cases e1 : P.length ≤ k
      · rw [if_pos e1, show k = P.length by omega]
      · rw [if_neg e1, a1.f0, ob1_some, a1.rS (by omega) a6, ob1_some]
        obtain ⟨q, hq⟩ : ∃ q, P[k]? = some q := ⟨P[k], List.getElem?_eq_getElem (by omega)⟩
        have o1 := hP q (List.mem_of_getElem? hq)
        unfold okQ at o1
        have hs2 : stK P s (k + 1) = stK P s k + if (if 1600 ≤ q.1 then 1 else 0) = s then 1 else 0 := by
          simp only [stK]
          rw [hq]
        rw [(a2 k q hq).1, storeOf_nn (by omega), ob1_some, if_eq (by split <;> omega) (by omega)]
        by_cases e2 : (if 1600 ≤ q.1 then 1 else 0) = s
        · rw [if_pos e2] at hs2 ⊢
          rw [q1, nn_add]
          show fX2_piecesOf_b28 G (fX2_piecesOf_b4 G fu) r (nn s) (nn (stK P s k + 1)) (nn k) = _
          unfold fX2_piecesOf_b28
          rw [q1, nn_add, ← hs2]
          exact ih (k + 1) (by omega) (by omega)
        · rw [if_neg e2] at hs2 ⊢
          unfold fX2_piecesOf_b28
          rw [q1, nn_add, show stK P s k = stK P s (k + 1) by omega]
          exact ih (k + 1) (by omega) (by omega)
  exact key FU 0 (by omega) (by rw [FU_eq]; omega)
theorem beginOf_sp {P : PC} {b sgn r k : Nat} {mk : Nat → Int} {st : Nat → Nat} (hz : sz P ≤ 3000) (hk : k ≤ P.length) (h : LfS G c i r b P sgn mk st) : fX2_beginOf G r (nn k) = some (nn (sz (P.take k))) := by
  obtain ⟨hs', hl, hm, ht, cap, fs, fl, fm, ft, a1, a2, a3, a4, a5, a6, a7⟩ := h
  unfold fX2_beginOf
  rw [q0]
  have key : ∀ fu j, j ≤ k → k - j < fu → fX2_beginOf_b4 G fu r (nn k) (nn (sz (P.take j))) (nn j) = some (nn (sz (P.take k))) := by
    intro fu
    induction fu with
    | zero => intro j _ h; omega
    | succ fu ih =>
      intro j hj hfu
      unfold fX2_beginOf_b4
      rw [if_le (by omega) (by omega)]
      by_cases e1 : k ≤ j
      · rw [if_pos e1, show j = k by omega]
      · rw [if_neg e1, a1.n2, ob1_some, if_neg (by rw [nn_le (by omega) (by omega)]; omega), a1.f1, ob1_some, a1.rL (by omega) a6, ob1_some]
        obtain ⟨q, hq⟩ : ∃ q, P[j]? = some q := ⟨P[j], List.getElem?_eq_getElem (by omega)⟩
        have htk : P.take (j + 1) = P.take j ++ [q] := by
          rw [List.take_succ, hq]
          rfl
        have hts : sz (P.take (j + 1)) = sz (P.take j) + q.2 := by
          rw [htk, sz_app, sz_cons, sz_nil]
          omega
        rw [(a2 j q hq).2, nn_add, q1, nn_add, ← hts]
        exact ih (j + 1) (by omega) (by omega)
  exact key FU 0 (by omega) (by rw [FU_eq]; omega)
def mbits (mk : Nat → Int) (lo hi : Int) : Nat → Int32
  | 0 => 0
  | k + 1 => if mk k ≠ -1 ∧ lo ≤ mk k ∧ mk k ≤ hi then mbits mk lo hi k ||| ((1 : Int32) <<< (nn k &&& 31)) else mbits mk lo hi k
theorem marksFrom_sp {P : PC} {b sgn r z : Nat} {lo hi : Int} {mk : Nat → Int} {st : Nat → Nat} (hb : bdM mk st z) (hz : z ≤ 3000) (hlo : -2147483648 ≤ lo ∧ lo < 2147483648) (hhi : -2147483648 ≤ hi ∧ hi < 2147483648) (h : LfS G c i r b P sgn mk st) : fX2_marksFrom G r (ii lo) (ii hi) = some (mbits mk lo hi 8) := by
  obtain ⟨hs', hl, hm, ht, cap, fs, fl, fm, ft, a1, a2, a3, a4, a5, a6, a7⟩ := h
  unfold fX2_marksFrom
  have key : ∀ fu k, k ≤ 8 → 8 - k < fu → fX2_marksFrom_b5 G fu r (ii lo) (ii hi) (mbits mk lo hi k) (nn k) = some (mbits mk lo hi 8) := by
    intro fu
    induction fu with
    | zero => intro j _ h; omega
    | succ fu ih =>
      intro k hk hfu
      unfold fX2_marksFrom_b5
      rw [q8, if_le (by omega) (by omega)]
      by_cases e1 : 8 ≤ k
      · rw [if_pos e1, show k = 8 by omega]
      · have hbk := hb k (by omega)
        have hmk := (a3 k (by omega)).1
        rw [if_neg e1, a1.f4, ob1_some, a1.rM (by omega), ob1_some, hmk]
        have skip : ¬ (mk k ≠ -1 ∧ lo ≤ mk k ∧ mk k ≤ hi) → fX2_marksFrom_b52 G (fX2_marksFrom_b5 G fu) r (ii lo) (ii hi) (mbits mk lo hi k) (nn k) = some (mbits mk lo hi 8) := by
          intro hc
          unfold fX2_marksFrom_b52
          rw [q1, nn_add]
          have : mbits mk lo hi k = mbits mk lo hi (k + 1) := by
            rw [mbits, if_neg hc]
          rw [this]
          exact ih (k + 1) (by omega) (by omega)
        by_cases e2 : mk k = -1
        · rw [if_pos (by rw [e2]; rfl)]
          exact skip (fun x => x.1 e2)
        · rw [if_neg (by rw [im1, ii_eq (by omega) (by omega)]; exact e2), ob1_some, a1.rM (by omega), ob1_some, hmk]
          by_cases e3 : mk k < lo
          · rw [if_pos (by rw [ii_lt (by omega) hlo]; exact e3)]
            exact skip (fun x => by omega)
          · rw [if_neg (by rw [ii_lt (by omega) hlo]; exact e3), ob1_some, a1.rM (by omega), ob1_some, hmk]
            by_cases e4 : hi < mk k
            · rw [if_pos (by rw [ii_lt hhi (by omega)]; exact e4)]
              exact skip (fun x => by omega)
            · rw [if_neg (by rw [ii_lt hhi (by omega)]; exact e4)]
              show fX2_marksFrom_b52 G (fX2_marksFrom_b5 G fu) r (ii lo) (ii hi) (mbits mk lo hi k ||| ((1 : Int32) <<< (nn k &&& 31))) (nn k) = _
              unfold fX2_marksFrom_b52
              rw [q1, nn_add]
              have : mbits mk lo hi (k + 1) = mbits mk lo hi k ||| ((1 : Int32) <<< (nn k &&& 31)) := by
                rw [mbits, if_pos ⟨e2, by omega, by omega⟩]
              rw [← q1, ← this]
              exact ih (k + 1) (by omega) (by omega)
  exact key FU 0 (by omega) (by rw [FU_eq]; omega)
end Heal
