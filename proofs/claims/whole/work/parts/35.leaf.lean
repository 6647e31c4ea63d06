/-! a leaf's rows: they grow, they open and close gaps -/
def Bd (cap b : Nat) : Prop := cap < 3000 → 4 * (3000 - cap) + 6000 ≤ b
theorem set_new (G : zH) (a e : zE) : (G ++ [a]).set G.length e = G ++ [e] := by simp
theorem copyOf_sp {G : zH} {h0 cap s : Nat} {f : Nat → Int32} (e : G[h0]? = some (.inl (0, (cap, .inl f)))) (h1 : cap < s) (h2 : s ≤ 3000) (h3 : G.length + 1 ≤ zGL) (h4 : zs G + s ≤ zKL) : fJ7_copyOf_59c91 G h0 (nn s) = some (G.length, G ++ [.inl (0, (s, .inl (va_cpy f (fun _ => 0) 0 0 cap)))]) := by
  unfold fJ7_copyOf_59c91
  rw [aL_at e, ob1_some, if_neg (by rw [nn_eq (by omega) (by omega)]; omega), gN_at (by omega) h3 h4, ob1_some]
  show ob1 (aL (G ++ [.inl (0, (s, .inl (fun _ => 0)))]) 0 h0) _ = _
  rw [aL_at (G_app e), ob1_some, if_neg (by rw [nn_lt (by omega) (by omega)]; omega), q0, cp_at (G_app e) (G_new _ _) (by omega) (by omega) (by omega) (by omega), ob1_some, set_new]
section OG
variable {G : zH} {c : Nat → Nat} {i r hs hl hm ht cap : Nat} {sg : Int32} {fs fl fm ft : Nat → Int32} {m b d p n : Nat}
theorem og61 (h : LfR G c i r hs hl hm ht cap (nn m) sg fs fl fm ft) (b : Nat) (hp : p ≤ m) (hmn : m + n ≤ cap) (hc : cap ≤ 3000) : ok (fX2_openGap_b61 G r (nn p) (nn n) (nn (m + n))) fun G' => LfR G' c i r hs hl hm ht cap (nn (m + n)) sg (va_cpy fs fs p (p + n) (m - p)) (va_cpy fl fl p (p + n) (m - p)) fm ft ∧ Up i G c b G' c b := by
  unfold fX2_openGap_b61
  refine sa1 h.f0 ?_
  refine sa1 h.f0 ?_
  refine sa1 h.n2 ?_
  rw [nn_add, nn_sub hp]
  obtain ⟨G1, e1, h1, u1⟩ := h.cS (sp := p) (dp := p + n) (n := m - p) b h.2.2.1 (by omega) (by omega) hc hc
  refine sa1 e1 ?_
  refine sa1 h1.f1 ?_
  refine sa1 h1.f1 ?_
  refine sa1 h1.n2 ?_
  rw [nn_sub hp]
  obtain ⟨G2, e2, h2, u2⟩ := h1.cL (sp := p) (dp := p + n) (n := m - p) b h1.2.2.2.1 (by omega) (by omega) hc hc
  refine sa1 e2 ?_
  obtain ⟨G3, e3, h3, u3⟩ := h2.s2 (nn (m + n)) b
  refine sa1 e3 ?_
  exact ok_some ⟨h3, (u1.trans u2).trans u3⟩
/-- both rows anew, of s places -/
theorem og_grow (h : LfR G c i r hs hl hm ht cap (nn m) sg fs fl fm ft) {s : Nat} (h1 : cap < s) (h16 : 16 ≤ cap) (h2 : s ≤ 3000) (hb : 2 * s ≤ b) (hr : Rm G (b + d)) : ∃ G' c', LfR G' c' i r G.length (G.length + 1) hm ht s (nn m) sg (va_cpy fs (fun _ => 0) 0 0 cap) (va_cpy fl (fun _ => 0) 0 0 cap) fm ft ∧ Up i G c b G' c' (b - 2 * s) ∧ ∀ (Q : zH → Prop) (f : zH → Option zH), ok (f G') Q → ok (ob1 (frf G r 2 0) fun qv9 => ob2 (fJ7_copyOf_59c91 G qv9 (nn s)) fun qv10 G11 => ob1 (fset G11 r 2 0 (.ref qv10)) fun G12 => ob1 (frf G12 r 2 1) fun qv13 => ob2 (fJ7_copyOf_59c91 G12 qv13 (nn s)) fun qv14 G15 => ob1 (fset G15 r 2 1 (.ref qv14)) fun G16 => f G16) Q := by
  obtain ⟨⟨c1, c2, c3, c4, c5⟩, g1, g2, g3, g4, g5⟩ := h
  have k1 := G_lt g1
  have k3 := G_lt g3
  have k4 := G_lt g4
  have k5 := G_lt g5
  have n1 : r ≠ hl := fun e => by rw [e] at c1; omega
  have n2 : r ≠ hm := fun e => by rw [e] at c1; omega
  have n3 : r ≠ ht := fun e => by rw [e] at c1; omega
  unfold Rm zKL zGL at hr
  have z1 : zs (G ++ [.inl (0, (s, .inl (va_cpy fs (fun _ => 0) 0 0 cap)))]) = zs G + s := zs_push _ _
  have g1a := G_app (K := [.inl (0, (s, .inl (va_cpy fs (fun _ => 0) 0 0 cap)))]) g1
  have g3a := G_app (K := [.inl (0, (s, .inl (va_cpy fs (fun _ => 0) 0 0 cap)))]) g3
  have g4a := G_app (K := [.inl (0, (s, .inl (va_cpy fs (fun _ => 0) 0 0 cap)))]) g4
  have g5a := G_app (K := [.inl (0, (s, .inl (va_cpy fs (fun _ => 0) 0 0 cap)))]) g5
  have gsa := G_new G (.inl (0, (s, .inl (va_cpy fs (fun _ => 0) 0 0 cap))))
  have la : (G ++ [(.inl (0, (s, .inl (va_cpy fs (fun _ => 0) 0 0 cap))) : zE)]).length = G.length + 1 := by simp
  have u1 : ∀ h, h < G.length → (G ++ [(.inl (0, (s, .inl (va_cpy fs (fun _ => 0) 0 0 cap))) : zE)])[h]? = G[h]? := fun h hh => List.getElem?_append_left hh
  have e1 := copyOf_sp (s := s) g2 h1 h2 (by unfold zGL; omega) (by unfold zKL; omega)
  generalize G ++ [(.inl (0, (s, .inl (va_cpy fs (fun _ => 0) 0 0 cap))) : zE)] = G1 at *
  have e2 := fset_at (k := 0) (v := .ref G.length) g1a (by simp)
  have g1b := G_same (e := .inr (2, [.ref G.length, .ref hl, .int (nn m), .int sg, .ref hm, .ref ht])) g1a
  have g3b := G_ne (e := .inr (2, [.ref G.length, .ref hl, .int (nn m), .int sg, .ref hm, .ref ht])) g3a n1
  have g4b := G_ne (e := .inr (2, [.ref G.length, .ref hl, .int (nn m), .int sg, .ref hm, .ref ht])) g4a n2
  have g5b := G_ne (e := .inr (2, [.ref G.length, .ref hl, .int (nn m), .int sg, .ref hm, .ref ht])) g5a n3
  have gsb := G_ne (e := .inr (2, [.ref G.length, .ref hl, .int (nn m), .int sg, .ref hm, .ref ht])) gsa (show r ≠ G.length by omega)
  have z2 : zs (G1.set r (.inr (2, [.ref G.length, .ref hl, .int (nn m), .int sg, .ref hm, .ref ht]))) = zs G1 := zs_set g1a rfl
  have lb : (G1.set r (.inr (2, [.ref G.length, .ref hl, .int (nn m), .int sg, .ref hm, .ref ht]))).length = G.length + 1 := by rw [List.length_set]; exact la
  have u2 : ∀ h, h ≠ r → (G1.set r (.inr (2, [.ref G.length, .ref hl, .int (nn m), .int sg, .ref hm, .ref ht])))[h]? = G1[h]? := fun h hh => List.getElem?_set_ne (Ne.symm hh)
  change fset G1 r 2 0 (.ref G.length) = some (G1.set r (.inr (2, [.ref G.length, .ref hl, .int (nn m), .int sg, .ref hm, .ref ht]))) at e2
  generalize G1.set r (.inr (2, [.ref G.length, .ref hl, .int (nn m), .int sg, .ref hm, .ref ht])) = G2 at *
  have e3 := copyOf_sp (s := s) g3b h1 h2 (by unfold zGL; omega) (by unfold zKL; omega)
  rw [lb] at e3
  have z3 : zs (G2 ++ [.inl (0, (s, .inl (va_cpy fl (fun _ => 0) 0 0 cap)))]) = zs G2 + s := zs_push _ _
  have g1c := G_app (K := [.inl (0, (s, .inl (va_cpy fl (fun _ => 0) 0 0 cap)))]) g1b
  have g4c := G_app (K := [.inl (0, (s, .inl (va_cpy fl (fun _ => 0) 0 0 cap)))]) g4b
  have g5c := G_app (K := [.inl (0, (s, .inl (va_cpy fl (fun _ => 0) 0 0 cap)))]) g5b
  have gsc := G_app (K := [.inl (0, (s, .inl (va_cpy fl (fun _ => 0) 0 0 cap)))]) gsb
  have glc := G_new G2 (.inl (0, (s, .inl (va_cpy fl (fun _ => 0) 0 0 cap))))
  rw [lb] at glc
  have lc : (G2 ++ [(.inl (0, (s, .inl (va_cpy fl (fun _ => 0) 0 0 cap))) : zE)]).length = G.length + 2 := by simp [lb]
  have u3 : ∀ h, h < G.length + 1 → (G2 ++ [(.inl (0, (s, .inl (va_cpy fl (fun _ => 0) 0 0 cap))) : zE)])[h]? = G2[h]? := fun h hh => List.getElem?_append_left (by omega)
  generalize G2 ++ [(.inl (0, (s, .inl (va_cpy fl (fun _ => 0) 0 0 cap))) : zE)] = G3 at *
  have e4 := fset_at (k := 1) (v := .ref (G.length + 1)) g1c (by simp)
  have z4 : zs (G3.set r (.inr (2, [.ref G.length, .ref (G.length + 1), .int (nn m), .int sg, .ref hm, .ref ht]))) = zs G3 := zs_set g1c rfl
  refine ⟨G3.set r (.inr (2, [.ref G.length, .ref (G.length + 1), .int (nn m), .int sg, .ref hm, .ref ht])), va_up (va_up c G.length (8 * i + 1)) (G.length + 1) (8 * i + 2), ⟨⟨?_, ?_, ?_, ?_, ?_⟩, G_same g1c, G_ne gsc (by omega), G_ne glc (by omega), G_ne g4c n2, G_ne g5c n3⟩, ⟨⟨?_, ?_, ?_⟩, ?_, ?_⟩, ?_⟩
  · rw [va_up_ne _ _ (by omega), va_up_ne _ _ (by omega)]; exact c1
  · rw [va_up_ne _ _ (by omega), va_up_same]
  · rw [va_up_same]
  · rw [va_up_ne _ _ (by omega), va_up_ne _ _ (by omega)]; exact c4
  · rw [va_up_ne _ _ (by omega), va_up_ne _ _ (by omega)]; exact c5
  · rw [List.length_set, lc]; omega
  · intro h hh
    rw [va_up_ne _ _ (by omega), va_up_ne _ _ (by omega)]
  · intro h hh hc
    have hr' : h ≠ r := fun e => hc (by rw [e, c1]; omega)
    rw [List.getElem?_set_ne (Ne.symm hr'), u3 h (by omega), u2 h hr', u1 h hh]
  · omega
  · rw [List.length_set, lc]; omega
  · intro Q f hf
    refine sa1 (frf_at g1 rfl) ?_
    refine sa2 e1 ?_
    refine sa1 e2 ?_
    refine sa1 (frf_at g1b rfl) ?_
    refine sa2 e3 ?_
    refine sa1 e4 ?_
    exact hf
/-- a gap of n at p -/
theorem openGap_sp (h : LfR G c i r hs hl hm ht cap (nn m) sg fs fl fm ft) (hp : p ≤ m) (hmc : m ≤ cap) (hmn : m + n ≤ 3000) (h16 : 16 ≤ cap) (hc : cap ≤ 3000) (hb : Bd cap b) (hr : Rm G (b + d)) : ok (fX2_openGap G r (nn p) (nn n)) fun G' => ∃ c' hs' hl' cap' fs' fl' b', LfR G' c' i r hs' hl' hm ht cap' (nn (m + n)) sg fs' fl' fm ft ∧ Up i G c b G' c' b' ∧ Bd cap' b' ∧ m + n ≤ cap' ∧ 16 ≤ cap' ∧ cap' ≤ 3000 ∧ (∀ k, k < p → fs' k = fs k ∧ fl' k = fl k) ∧ ∀ k, p ≤ k → k < m → fs' (k + n) = fs k ∧ fl' (k + n) = fl k := by
  have cpy : ∀ (f : Nat → Int32), (∀ k, k < p → va_cpy f f p (p + n) (m - p) k = f k) ∧ ∀ k, p ≤ k → k < m → va_cpy f f p (p + n) (m - p) (k + n) = f k := by
    intro f
    unfold va_cpy
    refine ⟨fun k hk => ?_, fun k hk1 hk2 => ?_⟩
    · rw [if_neg (by omega)]
    · rw [if_pos (by omega)]
      congr 1
      omega
  unfold fX2_openGap
  refine sa1 h.n2 ?_
  rw [nn_add]
  refine zl ?_
  refine sa1 h.f0 ?_
  refine sa1 h.lS ?_
  by_cases hg : m + n ≤ cap
  · refine ift (by rw [nn_le (by omega) (by omega)]; exact hg) ?_
    refine ok_imp (og61 h b hp hg hc) ?_
    intro G' ⟨a1, a2⟩
    exact ⟨c, hs, hl, cap, _, _, b, a1, a2, hb, hg, h16, hc, fun k hk => ⟨(cpy fs).1 k hk, (cpy fl).1 k hk⟩, fun k hk1 hk2 => ⟨(cpy fs).2 k hk1 hk2, (cpy fl).2 k hk1 hk2⟩⟩
  · refine ifn (by rw [nn_le (by omega) (by omega)]; exact hg) ?_
    refine sa1 h.f0 ?_
    refine sa1 h.lS ?_
    refine zl ?_
    obtain ⟨s, es, s1', s2', s3'⟩ : ∃ s, (if nn (m + n) < (if (3000 : Int32) < ((2 : Int32) * nn cap) then (3000 : Int32) else ((2 : Int32) * nn cap)) then (if (3000 : Int32) < ((2 : Int32) * nn cap) then (3000 : Int32) else ((2 : Int32) * nn cap)) else nn (m + n)) = nn s ∧ m + n ≤ s ∧ s ≤ 3000 ∧ (s < 3000 → 2 * cap ≤ s) := by
      rw [q3000, q2, nn_mul, if_lt (by omega) (by omega), nn_if, if_lt (by omega) (by split <;> omega), nn_if]
      exact ⟨_, rfl, by split <;> split <;> omega, by split <;> split <;> omega, by split <;> split <;> omega⟩
    rw [es]
    have hb1 := hb (by omega)
    obtain ⟨G1, c1, h1, u1, k1⟩ := og_grow (b := b) (d := d) (s := s) h (by omega) h16 s2' (by omega) hr
    refine k1 _ _ ?_
    refine ok_imp (og61 h1 (b - 2 * s) hp (by omega) s2') ?_
    intro G' ⟨a1, a2⟩
    have cp0 : ∀ (f : Nat → Int32), ∀ k, k < cap → va_cpy f (fun _ => 0) 0 0 cap k = f k := by
      intro f k hk
      unfold va_cpy
      rw [if_pos (by omega)]
      congr 1
      omega
    refine ⟨c1, _, _, s, _, _, b - 2 * s, a1, u1.trans a2, ?_, by omega, by omega, s2', fun k hk => ⟨?_, ?_⟩, fun k hk1 hk2 => ⟨?_, ?_⟩⟩
    · intro hs'
      have := s3' hs'
      omega
    · rw [(cpy _).1 k hk, cp0 _ _ (by omega)]
    · rw [(cpy _).1 k hk, cp0 _ _ (by omega)]
    · rw [(cpy _).2 k hk1 hk2, cp0 _ _ (by omega)]
    · rw [(cpy _).2 k hk1 hk2, cp0 _ _ (by omega)]
/-- n places from p on are closed -/
theorem closeGap_sp (h : LfR G c i r hs hl hm ht cap (nn m) sg fs fl fm ft) (b : Nat) (hp : p + n ≤ m) (hmc : m ≤ cap) (hc : cap ≤ 3000) : ok (fX2_closeGap G r (nn p) (nn n)) fun G' => ∃ fs' fl', LfR G' c i r hs hl hm ht cap (nn (m - n)) sg fs' fl' fm ft ∧ Up i G c b G' c b ∧ (∀ k, k < p → fs' k = fs k ∧ fl' k = fl k) ∧ ∀ k, p ≤ k → k < m - n → fs' k = fs (k + n) ∧ fl' k = fl (k + n) := by
  have cpy : ∀ (f : Nat → Int32), (∀ k, k < p → va_cpy f f (p + n) p (m - p - n) k = f k) ∧ ∀ k, p ≤ k → k < m - n → va_cpy f f (p + n) p (m - p - n) k = f (k + n) := by
    intro f
    unfold va_cpy
    refine ⟨fun k hk => ?_, fun k hk1 hk2 => ?_⟩
    · rw [if_neg (by omega)]
    · rw [if_pos (by omega)]
      congr 1
      omega
  unfold fX2_closeGap
  refine sa1 h.f0 ?_
  refine sa1 h.f0 ?_
  refine sa1 h.n2 ?_
  rw [nn_add, nn_sub (show p ≤ m by omega), nn_sub (show n ≤ m - p by omega)]
  obtain ⟨G1, e1, h1, u1⟩ := h.cS (sp := p + n) (dp := p) (n := m - p - n) b h.2.2.1 (by omega) (by omega) hc hc
  refine sa1 e1 ?_
  refine sa1 h1.f1 ?_
  refine sa1 h1.f1 ?_
  refine sa1 h1.n2 ?_
  rw [nn_sub (show p ≤ m by omega), nn_sub (show n ≤ m - p by omega)]
  obtain ⟨G2, e2, h2, u2⟩ := h1.cL (sp := p + n) (dp := p) (n := m - p - n) b h1.2.2.2.1 (by omega) (by omega) hc hc
  refine sa1 e2 ?_
  refine sa1 h2.n2 ?_
  rw [nn_sub (show n ≤ m by omega)]
  obtain ⟨G3, e3, h3, u3⟩ := h2.s2 (nn (m - n)) b
  refine sa1 e3 ?_
  exact ok_some ⟨_, _, h3, (u1.trans u2).trans u3, fun k hk => ⟨(cpy fs).1 k hk, (cpy fl).1 k hk⟩, fun k hk1 hk2 => ⟨(cpy fs).2 k hk1 hk2, (cpy fl).2 k hk1 hk2⟩⟩
end OG
