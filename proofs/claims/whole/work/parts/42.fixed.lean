/-! the cells of the class that stay where they are -/
def FX (G : zH) (a : (Nat → Int32) × Nat × Nat × Int32) (ro : Nat × (Nat → Int64)) (st : Nat × Nat × (Nat → Int32)) (hi : Nat × Nat × Nat × (Nat → Option Nat)) (ke : (Nat → Option Nat) × (Nat → Int32)) (pg qg : Nat × (Nat → Int32) × (Nat → Int32)) (sc : Nat → Int32) : Prop := G[0]? = some (.inr (6, [.ref 1, .int (nn a.2.1), .ref 2, .ref 4, .ref 6, .ref 8, .ref 9, .ref 10, .ref 15, .ref 20, .int (nn a.2.2.1), .ref 23, .ref 26, .int a.2.2.2])) ∧ G[1]? = some (.inl (0, (80, .inl a.1))) ∧ G[2]? = some (.inr (5, [.ref 3, .int (nn ro.1)])) ∧ G[3]? = some (.inl (1, (16, .inr (.inl ro.2)))) ∧ G[4]? = some (.inr (4, [.ref 5, .int (nn st.1), .int (nn st.2.1)])) ∧ G[5]? = some (.inl (2, (7600, .inl st.2.2))) ∧ G[6]? = some (.inr (1, [.ref 7, .int (nn hi.1), .int (nn hi.2.1), .int (nn hi.2.2.1)])) ∧ G[7]? = some (.inl (4, (31, .inr (.inr (.inr (.inr hi.2.2.2)))))) ∧ G[8]? = some (.inl (4, (3, .inr (.inr (.inr (.inr ke.1)))))) ∧ G[9]? = some (.inl (3, (3, .inl ke.2))) ∧ G[20]? = some (.inr (3, [.ref 21, .ref 22, .int (nn pg.1)])) ∧ G[21]? = some (.inl (2, (3000, .inl pg.2.1))) ∧ G[22]? = some (.inl (0, (3000, .inl pg.2.2))) ∧ G[23]? = some (.inr (3, [.ref 24, .ref 25, .int (nn qg.1)])) ∧ G[24]? = some (.inl (2, (3000, .inl qg.2.1))) ∧ G[25]? = some (.inl (0, (3000, .inl qg.2.2))) ∧ G[26]? = some (.inl (0, (6000, .inl sc)))
section FXs
variable {G : zH} {a : (Nat → Int32) × Nat × Nat × Int32} {ro : Nat × (Nat → Int64)} {st : Nat × Nat × (Nat → Int32)} {hi : Nat × Nat × Nat × (Nat → Option Nat)} {ke : (Nat → Option Nat) × (Nat → Int32)} {pg qg : Nat × (Nat → Int32) × (Nat → Int32)} {sc : Nat → Int32}
theorem FX.g0 (h : FX G a ro st hi ke pg qg sc) : G[0]? = some (.inr (6, [.ref 1, .int (nn a.2.1), .ref 2, .ref 4, .ref 6, .ref 8, .ref 9, .ref 10, .ref 15, .ref 20, .int (nn a.2.2.1), .ref 23, .ref 26, .int a.2.2.2])) := h.1
theorem FX.g1 (h : FX G a ro st hi ke pg qg sc) : G[1]? = some (.inl (0, (80, .inl a.1))) := h.2.1
theorem FX.g2 (h : FX G a ro st hi ke pg qg sc) : G[2]? = some (.inr (5, [.ref 3, .int (nn ro.1)])) := h.2.2.1
theorem FX.g3 (h : FX G a ro st hi ke pg qg sc) : G[3]? = some (.inl (1, (16, .inr (.inl ro.2)))) := h.2.2.2.1
theorem FX.g4 (h : FX G a ro st hi ke pg qg sc) : G[4]? = some (.inr (4, [.ref 5, .int (nn st.1), .int (nn st.2.1)])) := h.2.2.2.2.1
theorem FX.g5 (h : FX G a ro st hi ke pg qg sc) : G[5]? = some (.inl (2, (7600, .inl st.2.2))) := h.2.2.2.2.2.1
theorem FX.g6 (h : FX G a ro st hi ke pg qg sc) : G[6]? = some (.inr (1, [.ref 7, .int (nn hi.1), .int (nn hi.2.1), .int (nn hi.2.2.1)])) := h.2.2.2.2.2.2.1
theorem FX.g7 (h : FX G a ro st hi ke pg qg sc) : G[7]? = some (.inl (4, (31, .inr (.inr (.inr (.inr hi.2.2.2)))))) := h.2.2.2.2.2.2.2.1
theorem FX.g8 (h : FX G a ro st hi ke pg qg sc) : G[8]? = some (.inl (4, (3, .inr (.inr (.inr (.inr ke.1)))))) := h.2.2.2.2.2.2.2.2.1
theorem FX.g9 (h : FX G a ro st hi ke pg qg sc) : G[9]? = some (.inl (3, (3, .inl ke.2))) := h.2.2.2.2.2.2.2.2.2.1
theorem FX.g20 (h : FX G a ro st hi ke pg qg sc) : G[20]? = some (.inr (3, [.ref 21, .ref 22, .int (nn pg.1)])) := h.2.2.2.2.2.2.2.2.2.2.1
theorem FX.g21 (h : FX G a ro st hi ke pg qg sc) : G[21]? = some (.inl (2, (3000, .inl pg.2.1))) := h.2.2.2.2.2.2.2.2.2.2.2.1
theorem FX.g22 (h : FX G a ro st hi ke pg qg sc) : G[22]? = some (.inl (0, (3000, .inl pg.2.2))) := h.2.2.2.2.2.2.2.2.2.2.2.2.1
theorem FX.g23 (h : FX G a ro st hi ke pg qg sc) : G[23]? = some (.inr (3, [.ref 24, .ref 25, .int (nn qg.1)])) := h.2.2.2.2.2.2.2.2.2.2.2.2.2.1
theorem FX.g24 (h : FX G a ro st hi ke pg qg sc) : G[24]? = some (.inl (2, (3000, .inl qg.2.1))) := h.2.2.2.2.2.2.2.2.2.2.2.2.2.2.1
theorem FX.g25 (h : FX G a ro st hi ke pg qg sc) : G[25]? = some (.inl (0, (3000, .inl qg.2.2))) := h.2.2.2.2.2.2.2.2.2.2.2.2.2.2.2.1
theorem FX.g26 (h : FX G a ro st hi ke pg qg sc) : G[26]? = some (.inl (0, (6000, .inl sc))) := h.2.2.2.2.2.2.2.2.2.2.2.2.2.2.2.2
theorem FX.u0 (h : FX G a ro st hi ke pg qg sc) (n m : Nat) (x : Int32) : FX (G.set 0 (.inr (6, [.ref 1, .int (nn n), .ref 2, .ref 4, .ref 6, .ref 8, .ref 9, .ref 10, .ref 15, .ref 20, .int (nn m), .ref 23, .ref 26, .int x]))) (a.1, n, m, x) ro st hi ke pg qg sc := by
  obtain ⟨h0, h1, h2, h3, h4, h5, h6, h7, h8, h9, h10, h11, h12, h13, h14, h15, h16⟩ := h
  exact ⟨G_same h0, G_ne h1 (by decide), G_ne h2 (by decide), G_ne h3 (by decide), G_ne h4 (by decide), G_ne h5 (by decide), G_ne h6 (by decide), G_ne h7 (by decide), G_ne h8 (by decide), G_ne h9 (by decide), G_ne h10 (by decide), G_ne h11 (by decide), G_ne h12 (by decide), G_ne h13 (by decide), G_ne h14 (by decide), G_ne h15 (by decide), G_ne h16 (by decide)⟩
theorem FX.u1 (h : FX G a ro st hi ke pg qg sc) (f : Nat → Int32) : FX (G.set 1 (.inl (0, (80, .inl f)))) (f, a.2) ro st hi ke pg qg sc := by
  obtain ⟨h0, h1, h2, h3, h4, h5, h6, h7, h8, h9, h10, h11, h12, h13, h14, h15, h16⟩ := h
  exact ⟨G_ne h0 (by decide), G_same h1, G_ne h2 (by decide), G_ne h3 (by decide), G_ne h4 (by decide), G_ne h5 (by decide), G_ne h6 (by decide), G_ne h7 (by decide), G_ne h8 (by decide), G_ne h9 (by decide), G_ne h10 (by decide), G_ne h11 (by decide), G_ne h12 (by decide), G_ne h13 (by decide), G_ne h14 (by decide), G_ne h15 (by decide), G_ne h16 (by decide)⟩
theorem FX.u2 (h : FX G a ro st hi ke pg qg sc) (n : Nat) : FX (G.set 2 (.inr (5, [.ref 3, .int (nn n)]))) a (n, ro.2) st hi ke pg qg sc := by
  obtain ⟨h0, h1, h2, h3, h4, h5, h6, h7, h8, h9, h10, h11, h12, h13, h14, h15, h16⟩ := h
  exact ⟨G_ne h0 (by decide), G_ne h1 (by decide), G_same h2, G_ne h3 (by decide), G_ne h4 (by decide), G_ne h5 (by decide), G_ne h6 (by decide), G_ne h7 (by decide), G_ne h8 (by decide), G_ne h9 (by decide), G_ne h10 (by decide), G_ne h11 (by decide), G_ne h12 (by decide), G_ne h13 (by decide), G_ne h14 (by decide), G_ne h15 (by decide), G_ne h16 (by decide)⟩
theorem FX.u3 (h : FX G a ro st hi ke pg qg sc) (f : Nat → Int64) : FX (G.set 3 (.inl (1, (16, .inr (.inl f))))) a (ro.1, f) st hi ke pg qg sc := by
  obtain ⟨h0, h1, h2, h3, h4, h5, h6, h7, h8, h9, h10, h11, h12, h13, h14, h15, h16⟩ := h
  exact ⟨G_ne h0 (by decide), G_ne h1 (by decide), G_ne h2 (by decide), G_same h3, G_ne h4 (by decide), G_ne h5 (by decide), G_ne h6 (by decide), G_ne h7 (by decide), G_ne h8 (by decide), G_ne h9 (by decide), G_ne h10 (by decide), G_ne h11 (by decide), G_ne h12 (by decide), G_ne h13 (by decide), G_ne h14 (by decide), G_ne h15 (by decide), G_ne h16 (by decide)⟩
theorem FX.u4 (h : FX G a ro st hi ke pg qg sc) (n m : Nat) : FX (G.set 4 (.inr (4, [.ref 5, .int (nn n), .int (nn m)]))) a ro (n, m, st.2.2) hi ke pg qg sc := by
  obtain ⟨h0, h1, h2, h3, h4, h5, h6, h7, h8, h9, h10, h11, h12, h13, h14, h15, h16⟩ := h
  exact ⟨G_ne h0 (by decide), G_ne h1 (by decide), G_ne h2 (by decide), G_ne h3 (by decide), G_same h4, G_ne h5 (by decide), G_ne h6 (by decide), G_ne h7 (by decide), G_ne h8 (by decide), G_ne h9 (by decide), G_ne h10 (by decide), G_ne h11 (by decide), G_ne h12 (by decide), G_ne h13 (by decide), G_ne h14 (by decide), G_ne h15 (by decide), G_ne h16 (by decide)⟩
theorem FX.u5 (h : FX G a ro st hi ke pg qg sc) (f : Nat → Int32) : FX (G.set 5 (.inl (2, (7600, .inl f)))) a ro (st.1, st.2.1, f) hi ke pg qg sc := by
  obtain ⟨h0, h1, h2, h3, h4, h5, h6, h7, h8, h9, h10, h11, h12, h13, h14, h15, h16⟩ := h
  exact ⟨G_ne h0 (by decide), G_ne h1 (by decide), G_ne h2 (by decide), G_ne h3 (by decide), G_ne h4 (by decide), G_same h5, G_ne h6 (by decide), G_ne h7 (by decide), G_ne h8 (by decide), G_ne h9 (by decide), G_ne h10 (by decide), G_ne h11 (by decide), G_ne h12 (by decide), G_ne h13 (by decide), G_ne h14 (by decide), G_ne h15 (by decide), G_ne h16 (by decide)⟩
theorem FX.u6 (h : FX G a ro st hi ke pg qg sc) (x y z : Nat) : FX (G.set 6 (.inr (1, [.ref 7, .int (nn x), .int (nn y), .int (nn z)]))) a ro st (x, y, z, hi.2.2.2) ke pg qg sc := by
  obtain ⟨h0, h1, h2, h3, h4, h5, h6, h7, h8, h9, h10, h11, h12, h13, h14, h15, h16⟩ := h
  exact ⟨G_ne h0 (by decide), G_ne h1 (by decide), G_ne h2 (by decide), G_ne h3 (by decide), G_ne h4 (by decide), G_ne h5 (by decide), G_same h6, G_ne h7 (by decide), G_ne h8 (by decide), G_ne h9 (by decide), G_ne h10 (by decide), G_ne h11 (by decide), G_ne h12 (by decide), G_ne h13 (by decide), G_ne h14 (by decide), G_ne h15 (by decide), G_ne h16 (by decide)⟩
theorem FX.u7 (h : FX G a ro st hi ke pg qg sc) (f : Nat → Option Nat) : FX (G.set 7 (.inl (4, (31, .inr (.inr (.inr (.inr f))))))) a ro st (hi.1, hi.2.1, hi.2.2.1, f) ke pg qg sc := by
  obtain ⟨h0, h1, h2, h3, h4, h5, h6, h7, h8, h9, h10, h11, h12, h13, h14, h15, h16⟩ := h
  exact ⟨G_ne h0 (by decide), G_ne h1 (by decide), G_ne h2 (by decide), G_ne h3 (by decide), G_ne h4 (by decide), G_ne h5 (by decide), G_ne h6 (by decide), G_same h7, G_ne h8 (by decide), G_ne h9 (by decide), G_ne h10 (by decide), G_ne h11 (by decide), G_ne h12 (by decide), G_ne h13 (by decide), G_ne h14 (by decide), G_ne h15 (by decide), G_ne h16 (by decide)⟩
theorem FX.u8 (h : FX G a ro st hi ke pg qg sc) (f : Nat → Option Nat) : FX (G.set 8 (.inl (4, (3, .inr (.inr (.inr (.inr f))))))) a ro st hi (f, ke.2) pg qg sc := by
  obtain ⟨h0, h1, h2, h3, h4, h5, h6, h7, h8, h9, h10, h11, h12, h13, h14, h15, h16⟩ := h
  exact ⟨G_ne h0 (by decide), G_ne h1 (by decide), G_ne h2 (by decide), G_ne h3 (by decide), G_ne h4 (by decide), G_ne h5 (by decide), G_ne h6 (by decide), G_ne h7 (by decide), G_same h8, G_ne h9 (by decide), G_ne h10 (by decide), G_ne h11 (by decide), G_ne h12 (by decide), G_ne h13 (by decide), G_ne h14 (by decide), G_ne h15 (by decide), G_ne h16 (by decide)⟩
theorem FX.u9 (h : FX G a ro st hi ke pg qg sc) (f : Nat → Int32) : FX (G.set 9 (.inl (3, (3, .inl f)))) a ro st hi (ke.1, f) pg qg sc := by
  obtain ⟨h0, h1, h2, h3, h4, h5, h6, h7, h8, h9, h10, h11, h12, h13, h14, h15, h16⟩ := h
  exact ⟨G_ne h0 (by decide), G_ne h1 (by decide), G_ne h2 (by decide), G_ne h3 (by decide), G_ne h4 (by decide), G_ne h5 (by decide), G_ne h6 (by decide), G_ne h7 (by decide), G_ne h8 (by decide), G_same h9, G_ne h10 (by decide), G_ne h11 (by decide), G_ne h12 (by decide), G_ne h13 (by decide), G_ne h14 (by decide), G_ne h15 (by decide), G_ne h16 (by decide)⟩
theorem FX.u20 (h : FX G a ro st hi ke pg qg sc) (n : Nat) : FX (G.set 20 (.inr (3, [.ref 21, .ref 22, .int (nn n)]))) a ro st hi ke (n, pg.2) qg sc := by
  obtain ⟨h0, h1, h2, h3, h4, h5, h6, h7, h8, h9, h10, h11, h12, h13, h14, h15, h16⟩ := h
  exact ⟨G_ne h0 (by decide), G_ne h1 (by decide), G_ne h2 (by decide), G_ne h3 (by decide), G_ne h4 (by decide), G_ne h5 (by decide), G_ne h6 (by decide), G_ne h7 (by decide), G_ne h8 (by decide), G_ne h9 (by decide), G_same h10, G_ne h11 (by decide), G_ne h12 (by decide), G_ne h13 (by decide), G_ne h14 (by decide), G_ne h15 (by decide), G_ne h16 (by decide)⟩
theorem FX.u21 (h : FX G a ro st hi ke pg qg sc) (f : Nat → Int32) : FX (G.set 21 (.inl (2, (3000, .inl f)))) a ro st hi ke (pg.1, f, pg.2.2) qg sc := by
  obtain ⟨h0, h1, h2, h3, h4, h5, h6, h7, h8, h9, h10, h11, h12, h13, h14, h15, h16⟩ := h
  exact ⟨G_ne h0 (by decide), G_ne h1 (by decide), G_ne h2 (by decide), G_ne h3 (by decide), G_ne h4 (by decide), G_ne h5 (by decide), G_ne h6 (by decide), G_ne h7 (by decide), G_ne h8 (by decide), G_ne h9 (by decide), G_ne h10 (by decide), G_same h11, G_ne h12 (by decide), G_ne h13 (by decide), G_ne h14 (by decide), G_ne h15 (by decide), G_ne h16 (by decide)⟩
theorem FX.u22 (h : FX G a ro st hi ke pg qg sc) (f : Nat → Int32) : FX (G.set 22 (.inl (0, (3000, .inl f)))) a ro st hi ke (pg.1, pg.2.1, f) qg sc := by
  obtain ⟨h0, h1, h2, h3, h4, h5, h6, h7, h8, h9, h10, h11, h12, h13, h14, h15, h16⟩ := h
  exact ⟨G_ne h0 (by decide), G_ne h1 (by decide), G_ne h2 (by decide), G_ne h3 (by decide), G_ne h4 (by decide), G_ne h5 (by decide), G_ne h6 (by decide), G_ne h7 (by decide), G_ne h8 (by decide), G_ne h9 (by decide), G_ne h10 (by decide), G_ne h11 (by decide), G_same h12, G_ne h13 (by decide), G_ne h14 (by decide), G_ne h15 (by decide), G_ne h16 (by decide)⟩
theorem FX.u23 (h : FX G a ro st hi ke pg qg sc) (n : Nat) : FX (G.set 23 (.inr (3, [.ref 24, .ref 25, .int (nn n)]))) a ro st hi ke pg (n, qg.2) sc := by
  obtain ⟨h0, h1, h2, h3, h4, h5, h6, h7, h8, h9, h10, h11, h12, h13, h14, h15, h16⟩ := h
  exact ⟨G_ne h0 (by decide), G_ne h1 (by decide), G_ne h2 (by decide), G_ne h3 (by decide), G_ne h4 (by decide), G_ne h5 (by decide), G_ne h6 (by decide), G_ne h7 (by decide), G_ne h8 (by decide), G_ne h9 (by decide), G_ne h10 (by decide), G_ne h11 (by decide), G_ne h12 (by decide), G_same h13, G_ne h14 (by decide), G_ne h15 (by decide), G_ne h16 (by decide)⟩
theorem FX.u24 (h : FX G a ro st hi ke pg qg sc) (f : Nat → Int32) : FX (G.set 24 (.inl (2, (3000, .inl f)))) a ro st hi ke pg (qg.1, f, qg.2.2) sc := by
  obtain ⟨h0, h1, h2, h3, h4, h5, h6, h7, h8, h9, h10, h11, h12, h13, h14, h15, h16⟩ := h
  exact ⟨G_ne h0 (by decide), G_ne h1 (by decide), G_ne h2 (by decide), G_ne h3 (by decide), G_ne h4 (by decide), G_ne h5 (by decide), G_ne h6 (by decide), G_ne h7 (by decide), G_ne h8 (by decide), G_ne h9 (by decide), G_ne h10 (by decide), G_ne h11 (by decide), G_ne h12 (by decide), G_ne h13 (by decide), G_same h14, G_ne h15 (by decide), G_ne h16 (by decide)⟩
theorem FX.u25 (h : FX G a ro st hi ke pg qg sc) (f : Nat → Int32) : FX (G.set 25 (.inl (0, (3000, .inl f)))) a ro st hi ke pg (qg.1, qg.2.1, f) sc := by
  obtain ⟨h0, h1, h2, h3, h4, h5, h6, h7, h8, h9, h10, h11, h12, h13, h14, h15, h16⟩ := h
  exact ⟨G_ne h0 (by decide), G_ne h1 (by decide), G_ne h2 (by decide), G_ne h3 (by decide), G_ne h4 (by decide), G_ne h5 (by decide), G_ne h6 (by decide), G_ne h7 (by decide), G_ne h8 (by decide), G_ne h9 (by decide), G_ne h10 (by decide), G_ne h11 (by decide), G_ne h12 (by decide), G_ne h13 (by decide), G_ne h14 (by decide), G_same h15, G_ne h16 (by decide)⟩
theorem FX.u26 (h : FX G a ro st hi ke pg qg sc) (f : Nat → Int32) : FX (G.set 26 (.inl (0, (6000, .inl f)))) a ro st hi ke pg qg f := by
  obtain ⟨h0, h1, h2, h3, h4, h5, h6, h7, h8, h9, h10, h11, h12, h13, h14, h15, h16⟩ := h
  exact ⟨G_ne h0 (by decide), G_ne h1 (by decide), G_ne h2 (by decide), G_ne h3 (by decide), G_ne h4 (by decide), G_ne h5 (by decide), G_ne h6 (by decide), G_ne h7 (by decide), G_ne h8 (by decide), G_ne h9 (by decide), G_ne h10 (by decide), G_ne h11 (by decide), G_ne h12 (by decide), G_ne h13 (by decide), G_ne h14 (by decide), G_ne h15 (by decide), G_same h16⟩
theorem FX.kept {i : Nat} {c c' : Nat → Nat} {G' : zH} (h : FX G a ro st hi ke pg qg sc) (hf : Fr i G c G' c') (hc : ∀ k, k ≤ 9 ∨ (20 ≤ k ∧ k ≤ 26) → c k / 8 ≠ i) : FX G' a ro st hi ke pg qg sc := by
  obtain ⟨h0, h1, h2, h3, h4, h5, h6, h7, h8, h9, h10, h11, h12, h13, h14, h15, h16⟩ := h
  obtain ⟨-, -, f3⟩ := hf
  exact ⟨(f3 _ (G_lt h0) (hc _ (by decide))).trans h0, (f3 _ (G_lt h1) (hc _ (by decide))).trans h1, (f3 _ (G_lt h2) (hc _ (by decide))).trans h2, (f3 _ (G_lt h3) (hc _ (by decide))).trans h3, (f3 _ (G_lt h4) (hc _ (by decide))).trans h4, (f3 _ (G_lt h5) (hc _ (by decide))).trans h5, (f3 _ (G_lt h6) (hc _ (by decide))).trans h6, (f3 _ (G_lt h7) (hc _ (by decide))).trans h7, (f3 _ (G_lt h8) (hc _ (by decide))).trans h8, (f3 _ (G_lt h9) (hc _ (by decide))).trans h9, (f3 _ (G_lt h10) (hc _ (by decide))).trans h10, (f3 _ (G_lt h11) (hc _ (by decide))).trans h11, (f3 _ (G_lt h12) (hc _ (by decide))).trans h12, (f3 _ (G_lt h13) (hc _ (by decide))).trans h13, (f3 _ (G_lt h14) (hc _ (by decide))).trans h14, (f3 _ (G_lt h15) (hc _ (by decide))).trans h15, (f3 _ (G_lt h16) (hc _ (by decide))).trans h16⟩
theorem FX.app {K : zH} (h : FX G a ro st hi ke pg qg sc) : FX (G ++ K) a ro st hi ke pg qg sc := by
  obtain ⟨h0, h1, h2, h3, h4, h5, h6, h7, h8, h9, h10, h11, h12, h13, h14, h15, h16⟩ := h
  exact ⟨G_app h0, G_app h1, G_app h2, G_app h3, G_app h4, G_app h5, G_app h6, G_app h7, G_app h8, G_app h9, G_app h10, G_app h11, G_app h12, G_app h13, G_app h14, G_app h15, G_app h16⟩
end FXs
