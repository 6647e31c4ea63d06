/-! cells by their handles -/
theorem G_lt {G : zH} {h : Nat} {e : zE} (h1 : G[h]? = some e) : h < G.length := (List.getElem?_eq_some_iff.mp h1).1
theorem G_same {G : zH} {h : Nat} {e0 e : zE} (h1 : G[h]? = some e0) : (G.set h e)[h]? = some e := List.getElem?_set_self (G_lt h1)
theorem G_ne {G : zH} {h j : Nat} {e e' : zE} (h1 : G[j]? = some e') (hn : h ≠ j) : (G.set h e)[j]? = some e' := by rw [List.getElem?_set_ne hn]; exact h1
theorem G_app {G K : zH} {h : Nat} {e : zE} (h1 : G[h]? = some e) : (G ++ K)[h]? = some e := by rw [List.getElem?_append_left (G_lt h1)]; exact h1
theorem G_new (G : zH) (e : zE) : (G ++ [e])[G.length]? = some e := by simp
theorem fi_at {G : zH} {r ci k : Nat} {fs : List Value} {v : Int32} (h : G[r]? = some (.inr (ci, fs))) (hv : fs[k]? = some (.int v)) : fi G r ci k = some v := by
  unfold fi fO
  rw [h]
  simp [ob1, hv, vI]
theorem frf_at {G : zH} {r ci k : Nat} {fs : List Value} {v : Nat} (h : G[r]? = some (.inr (ci, fs))) (hv : fs[k]? = some (.ref v)) : frf G r ci k = some v := by
  unfold frf fO
  rw [h]
  simp [ob1, hv, vR]
theorem fset_at {G : zH} {r ci k : Nat} {fs : List Value} {v : Value} (h : G[r]? = some (.inr (ci, fs))) (hk : k < fs.length) : fset G r ci k v = some (G.set r (.inr (ci, fs.set k v))) := by
  unfold fset fO
  rw [h]
  simp [ob1, hk]
theorem isO_at {G : zH} {r ci : Nat} {fs : List Value} (h : G[r]? = some (.inr (ci, fs))) : isO G r ci = some () := by
  unfold isO
  rw [h]
  simp
theorem gA_at {G : zH} {t r n : Nat} {f : Nat → Int32} (h : G[r]? = some (.inl (t, (n, .inl f)))) : gA G t r = some (n, f) := by
  unfold gA
  rw [h]
  simp
theorem gJ_at {G : zH} {r n : Nat} {f : Nat → Int64} (h : G[r]? = some (.inl (1, (n, .inr (.inl f))))) : gJ G r = some (n, f) := by
  unfold gJ
  rw [h]
  simp
theorem gQ_at {G : zH} {t r n : Nat} {f : Nat → Option Nat} (h : G[r]? = some (.inl (t, (n, .inr (.inr (.inr (.inr f))))))) : gQ G t r = some (n, f) := by
  unfold gQ
  rw [h]
  simp
theorem aR_at {G : zH} {t r n k : Nat} {f : Nat → Int32} (h : G[r]? = some (.inl (t, (n, .inl f)))) (hk : k < n) (hn : n ≤ 2147483648) : aR G t r (nn k) = some (f k) := by
  unfold aR
  rw [gA_at h, ob1_some]
  exact rd_nn hk hn
theorem aW_at {G : zH} {t r n k : Nat} {f : Nat → Int32} {x : Int32} (h : G[r]? = some (.inl (t, (n, .inl f)))) (hk : k < n) (hn : n ≤ 2147483648) : aW G t r (nn k) x = some (G.set r (.inl (t, (n, .inl (upd f k x))))) := by
  unfold aW
  rw [gA_at h, ob1_some, nn_tn (by omega)]
  exact wr_nn hk hn
theorem aL_at {G : zH} {t r n : Nat} {f : Nat → Int32} (h : G[r]? = some (.inl (t, (n, .inl f)))) : aL G t r = some (nn n) := by
  unfold aL
  rw [gA_at h, ob1_some]
  rfl
theorem jR_at {G : zH} {r n k : Nat} {f : Nat → Int64} (h : G[r]? = some (.inl (1, (n, .inr (.inl f))))) (hk : k < n) (hn : n ≤ 2147483648) : jR G r (nn k) = some (f k) := by
  unfold jR
  rw [gJ_at h, ob1_some]
  exact rd_nn hk hn
theorem jW_at {G : zH} {r n k : Nat} {f : Nat → Int64} {x : Int64} (h : G[r]? = some (.inl (1, (n, .inr (.inl f))))) (hk : k < n) (hn : n ≤ 2147483648) : jW G r (nn k) x = some (G.set r (.inl (1, (n, .inr (.inl (vp_updL f k x)))))) := by
  unfold jW
  rw [gJ_at h, ob1_some, nn_tn (by omega)]
  exact wr_nn hk hn
theorem jL_at {G : zH} {r n : Nat} {f : Nat → Int64} (h : G[r]? = some (.inl (1, (n, .inr (.inl f))))) : jL G r = some (nn n) := by
  unfold jL
  rw [gJ_at h, ob1_some]
  rfl
theorem qR_at {G : zH} {t r n k : Nat} {f : Nat → Option Nat} (h : G[r]? = some (.inl (t, (n, .inr (.inr (.inr (.inr f))))))) (hk : k < n) (hn : n ≤ 2147483648) : qR G t r (nn k) = some (f k) := by
  unfold qR
  rw [gQ_at h, ob1_some]
  exact rd_nn hk hn
theorem qW_at {G : zH} {r n k v : Nat} {f : Nat → Option Nat} {fs : List Value} (h : G[r]? = some (.inl (4, (n, .inr (.inr (.inr (.inr f))))))) (hv : G[v]? = some (.inr (2, fs))) (hk : k < n) (hn : n ≤ 2147483648) : qW G r (nn k) v = some (G.set r (.inl (4, (n, .inr (.inr (.inr (.inr (va_up f k (some v))))))))) := by
  unfold qW
  rw [gQ_at h, ob1_some, isO_at hv, ob1_some, nn_tn (by omega)]
  exact wr_nn hk hn
theorem cp_at {G : zH} {h0 h1 sp dp n m0 m1 : Nat} {f g : Nat → Int32} (e0 : G[h0]? = some (.inl (0, (m0, .inl f)))) (e1 : G[h1]? = some (.inl (0, (m1, .inl g)))) (b0 : sp + n ≤ m0) (b1 : dp + n ≤ m1) (c0 : m0 < 2147483648) (c1 : m1 < 2147483648) : cp G h0 (nn sp) h1 (nn dp) (nn n) = some (G.set h1 (.inl (0, (m1, .inl (va_cpy f g sp dp n))))) := by
  unfold cp
  rw [gA_at e0, ob1_some, gA_at e1, ob1_some, nn_tn (by omega), nn_tn (by omega), nn_tn (by omega), if_neg (by rw [nn_neg (by omega), nn_neg (by omega), nn_neg (by omega)]; simp; omega)]
theorem gN_at {G : zH} {n : Nat} (h1 : n ≤ 100000) (h2 : G.length + 1 ≤ zGL) (h3 : zs G + n ≤ zKL) : gN G (nn n) = some n := by
  unfold gN dnew
  rw [nn_tn (by omega), if_neg (by rw [nn_neg (by omega)]; simp; omega)]
theorem gP_at {G : zH} {n : Nat} (h2 : G.length + 1 ≤ zGL) (h3 : zs G + n ≤ zKL) : gP G n = some () := by
  unfold gP
  rw [if_neg (by omega)]
/-! frames: only cells of the colours 8 i .. 8 i + 7 change; costs: what the heap takes comes out of a budget -/
def Fr (i : Nat) (G : zH) (c : Nat → Nat) (G' : zH) (c' : Nat → Nat) : Prop := G.length ≤ G'.length ∧ (∀ h, h < G.length → c' h = c h) ∧ ∀ h, h < G.length → c h / 8 ≠ i → G'[h]? = G[h]?
def Up (i : Nat) (G : zH) (c : Nat → Nat) (b : Nat) (G' : zH) (c' : Nat → Nat) (b' : Nat) : Prop := Fr i G c G' c' ∧ zs G' + b' ≤ zs G + b ∧ 12 * G'.length + b' ≤ 12 * G.length + b
def Rm (G : zH) (b : Nat) : Prop := zs G + b ≤ zKL ∧ 12 * G.length + b ≤ 12 * zGL
theorem Fr.refl (i : Nat) (G : zH) (c : Nat → Nat) : Fr i G c G c := ⟨Nat.le_refl _, fun _ _ => rfl, fun _ _ _ => rfl⟩
theorem Fr.trans {i : Nat} {G G1 G2 : zH} {c c1 c2 : Nat → Nat} (h1 : Fr i G c G1 c1) (h2 : Fr i G1 c1 G2 c2) : Fr i G c G2 c2 := by
  obtain ⟨a1, a2, a3⟩ := h1
  obtain ⟨b1, b2, b3⟩ := h2
  refine ⟨by omega, fun h hh => ?_, fun h hh hc => ?_⟩
  · rw [b2 h (by omega), a2 h hh]
  · rw [b3 h (by omega) (by rw [a2 h hh]; exact hc), a3 h hh hc]
theorem Up.refl (i : Nat) (G : zH) (c : Nat → Nat) (b : Nat) : Up i G c b G c b := ⟨Fr.refl i G c, Nat.le_refl _, Nat.le_refl _⟩
theorem Up.trans {i b b1 b2 : Nat} {G G1 G2 : zH} {c c1 c2 : Nat → Nat} (h1 : Up i G c b G1 c1 b1) (h2 : Up i G1 c1 b1 G2 c2 b2) : Up i G c b G2 c2 b2 := ⟨h1.1.trans h2.1, by have := h1.2; have := h2.2; omega, by have := h1.2; have := h2.2; omega⟩
theorem Up.rm {i b b1 : Nat} {G G1 : zH} {c c1 : Nat → Nat} (h1 : Up i G c b G1 c1 b1) {d : Nat} (h : Rm G (b + d)) : Rm G1 (b1 + d) := by
  have h2 := h1.2
  unfold Rm at *
  omega
theorem Up.set {i b h : Nat} {G : zH} {c : Nat → Nat} {e0 e : zE} (h0 : G[h]? = some e0) (hs : zsz e = zsz e0) (hc : c h / 8 = i) : Up i G c b (G.set h e) c b := by
  refine ⟨⟨by simp, fun _ _ => rfl, fun j hj hn => ?_⟩, ?_, ?_⟩
  · rw [List.getElem?_set_ne (fun hh => hn (by rw [← hh]; exact hc))]
  · rw [zs_set h0 hs]
    exact Nat.le_refl _
  · simp
theorem Up.new {i b b' n : Nat} {G : zH} {c : Nat → Nat} {e : zE} (k : Nat) (hs : zsz e = n) (h1 : n + b' ≤ b) (h2 : 12 + b' ≤ b) : Up i G c b (G ++ [e]) (va_up c G.length k) b' := by
  refine ⟨⟨by simp, fun h hh => va_up_ne _ _ (by omega), fun h hh _ => List.getElem?_append_left hh⟩, ?_, ?_⟩
  · rw [zs_push, hs]
    omega
  · simp
    omega
/-! a leaf's cells -/
def LfR (G : zH) (c : Nat → Nat) (i r hs hl hm ht cap : Nat) (cnt sg : Int32) (fs fl fm ft : Nat → Int32) : Prop :=
  (c r = 8 * i ∧ c hs = 8 * i + 1 ∧ c hl = 8 * i + 2 ∧ c hm = 8 * i + 3 ∧ c ht = 8 * i + 4) ∧
  G[r]? = some (.inr (2, [.ref hs, .ref hl, .int cnt, .int sg, .ref hm, .ref ht])) ∧ G[hs]? = some (.inl (0, (cap, .inl fs))) ∧ G[hl]? = some (.inl (0, (cap, .inl fl))) ∧ G[hm]? = some (.inl (0, (8, .inl fm))) ∧ G[ht]? = some (.inl (3, (8, .inl ft)))
section RLs
variable {G : zH} {c : Nat → Nat} {i r hs hl hm ht cap : Nat} {cnt sg : Int32} {fs fl fm ft : Nat → Int32}
theorem LfR.f0 (h : LfR G c i r hs hl hm ht cap cnt sg fs fl fm ft) : frf G r 2 0 = some hs := frf_at h.2.1 rfl
theorem LfR.f1 (h : LfR G c i r hs hl hm ht cap cnt sg fs fl fm ft) : frf G r 2 1 = some hl := frf_at h.2.1 rfl
theorem LfR.f4 (h : LfR G c i r hs hl hm ht cap cnt sg fs fl fm ft) : frf G r 2 4 = some hm := frf_at h.2.1 rfl
theorem LfR.f5 (h : LfR G c i r hs hl hm ht cap cnt sg fs fl fm ft) : frf G r 2 5 = some ht := frf_at h.2.1 rfl
theorem LfR.n2 (h : LfR G c i r hs hl hm ht cap cnt sg fs fl fm ft) : fi G r 2 2 = some cnt := fi_at h.2.1 rfl
theorem LfR.n3 (h : LfR G c i r hs hl hm ht cap cnt sg fs fl fm ft) : fi G r 2 3 = some sg := fi_at h.2.1 rfl
theorem LfR.io (h : LfR G c i r hs hl hm ht cap cnt sg fs fl fm ft) : isO G r 2 = some () := isO_at h.2.1
theorem LfR.lS (h : LfR G c i r hs hl hm ht cap cnt sg fs fl fm ft) : aL G 0 hs = some (nn cap) := aL_at h.2.2.1
theorem LfR.lL (h : LfR G c i r hs hl hm ht cap cnt sg fs fl fm ft) : aL G 0 hl = some (nn cap) := aL_at h.2.2.2.1
theorem LfR.rS (h : LfR G c i r hs hl hm ht cap cnt sg fs fl fm ft) {k : Nat} (hk : k < cap) (hn : cap ≤ 3000) : aR G 0 hs (nn k) = some (fs k) := aR_at h.2.2.1 hk (by omega)
theorem LfR.rL (h : LfR G c i r hs hl hm ht cap cnt sg fs fl fm ft) {k : Nat} (hk : k < cap) (hn : cap ≤ 3000) : aR G 0 hl (nn k) = some (fl k) := aR_at h.2.2.2.1 hk (by omega)
theorem LfR.rM (h : LfR G c i r hs hl hm ht cap cnt sg fs fl fm ft) {k : Nat} (hk : k < 8) : aR G 0 hm (nn k) = some (fm k) := aR_at h.2.2.2.2.1 hk (by omega)
theorem LfR.rT (h : LfR G c i r hs hl hm ht cap cnt sg fs fl fm ft) {k : Nat} (hk : k < 8) : aR G 3 ht (nn k) = some (ft k) := aR_at h.2.2.2.2.2 hk (by omega)
theorem LfR.setS (h : LfR G c i r hs hl hm ht cap cnt sg fs fl fm ft) (f : Nat → Int32) : LfR (G.set hs (.inl (0, (cap, .inl f)))) c i r hs hl hm ht cap cnt sg f fl fm ft := by
  obtain ⟨⟨c1, c2, c3, c4, c5⟩, h1, h2, h3, h4, h5⟩ := h
  have n1 : hs ≠ r := fun e => by rw [e] at c2; omega
  have n2 : hs ≠ hl := fun e => by rw [e] at c2; omega
  have n3 : hs ≠ hm := fun e => by rw [e] at c2; omega
  have n4 : hs ≠ ht := fun e => by rw [e] at c2; omega
  exact ⟨⟨c1, c2, c3, c4, c5⟩, G_ne h1 n1, G_same h2, G_ne h3 n2, G_ne h4 n3, G_ne h5 n4⟩
theorem LfR.setL (h : LfR G c i r hs hl hm ht cap cnt sg fs fl fm ft) (f : Nat → Int32) : LfR (G.set hl (.inl (0, (cap, .inl f)))) c i r hs hl hm ht cap cnt sg fs f fm ft := by
  obtain ⟨⟨c1, c2, c3, c4, c5⟩, h1, h2, h3, h4, h5⟩ := h
  have n1 : hl ≠ r := fun e => by rw [e] at c3; omega
  have n2 : hl ≠ hs := fun e => by rw [e] at c3; omega
  have n3 : hl ≠ hm := fun e => by rw [e] at c3; omega
  have n4 : hl ≠ ht := fun e => by rw [e] at c3; omega
  exact ⟨⟨c1, c2, c3, c4, c5⟩, G_ne h1 n1, G_ne h2 n2, G_same h3, G_ne h4 n3, G_ne h5 n4⟩
theorem LfR.setM (h : LfR G c i r hs hl hm ht cap cnt sg fs fl fm ft) (f : Nat → Int32) : LfR (G.set hm (.inl (0, (8, .inl f)))) c i r hs hl hm ht cap cnt sg fs fl f ft := by
  obtain ⟨⟨c1, c2, c3, c4, c5⟩, h1, h2, h3, h4, h5⟩ := h
  have n1 : hm ≠ r := fun e => by rw [e] at c4; omega
  have n2 : hm ≠ hs := fun e => by rw [e] at c4; omega
  have n3 : hm ≠ hl := fun e => by rw [e] at c4; omega
  have n4 : hm ≠ ht := fun e => by rw [e] at c4; omega
  exact ⟨⟨c1, c2, c3, c4, c5⟩, G_ne h1 n1, G_ne h2 n2, G_ne h3 n3, G_same h4, G_ne h5 n4⟩
theorem LfR.setT (h : LfR G c i r hs hl hm ht cap cnt sg fs fl fm ft) (f : Nat → Int32) : LfR (G.set ht (.inl (3, (8, .inl f)))) c i r hs hl hm ht cap cnt sg fs fl fm f := by
  obtain ⟨⟨c1, c2, c3, c4, c5⟩, h1, h2, h3, h4, h5⟩ := h
  have n1 : ht ≠ r := fun e => by rw [e] at c5; omega
  have n2 : ht ≠ hs := fun e => by rw [e] at c5; omega
  have n3 : ht ≠ hl := fun e => by rw [e] at c5; omega
  have n4 : ht ≠ hm := fun e => by rw [e] at c5; omega
  exact ⟨⟨c1, c2, c3, c4, c5⟩, G_ne h1 n1, G_ne h2 n2, G_ne h3 n3, G_ne h4 n4, G_same h5⟩
/-- the object's cell anew -/
theorem LfR.setO (h : LfR G c i r hs hl hm ht cap cnt sg fs fl fm ft) (cnt' sg' : Int32) : LfR (G.set r (.inr (2, [.ref hs, .ref hl, .int cnt', .int sg', .ref hm, .ref ht]))) c i r hs hl hm ht cap cnt' sg' fs fl fm ft := by
  obtain ⟨⟨c1, c2, c3, c4, c5⟩, h1, h2, h3, h4, h5⟩ := h
  have n1 : r ≠ hs := fun e => by rw [e] at c1; omega
  have n2 : r ≠ hl := fun e => by rw [e] at c1; omega
  have n3 : r ≠ hm := fun e => by rw [e] at c1; omega
  have n4 : r ≠ ht := fun e => by rw [e] at c1; omega
  exact ⟨⟨c1, c2, c3, c4, c5⟩, G_same h1, G_ne h2 n1, G_ne h3 n2, G_ne h4 n3, G_ne h5 n4⟩
/-- writes: the step, the leaf anew, what changed -/
theorem LfR.wS (h : LfR G c i r hs hl hm ht cap cnt sg fs fl fm ft) {k : Nat} (x : Int32) (b : Nat) (hk : k < cap) (hn : cap ≤ 3000) : ∃ G', aW G 0 hs (nn k) x = some G' ∧ LfR G' c i r hs hl hm ht cap cnt sg (upd fs k x) fl fm ft ∧ Up i G c b G' c b :=
  ⟨_, aW_at h.2.2.1 hk (by omega), h.setS _, Up.set h.2.2.1 rfl (by have := h.1.2.1; omega)⟩
theorem LfR.wL (h : LfR G c i r hs hl hm ht cap cnt sg fs fl fm ft) {k : Nat} (x : Int32) (b : Nat) (hk : k < cap) (hn : cap ≤ 3000) : ∃ G', aW G 0 hl (nn k) x = some G' ∧ LfR G' c i r hs hl hm ht cap cnt sg fs (upd fl k x) fm ft ∧ Up i G c b G' c b :=
  ⟨_, aW_at h.2.2.2.1 hk (by omega), h.setL _, Up.set h.2.2.2.1 rfl (by have := h.1.2.2.1; omega)⟩
theorem LfR.wM (h : LfR G c i r hs hl hm ht cap cnt sg fs fl fm ft) {k : Nat} (x : Int32) (b : Nat) (hk : k < 8) : ∃ G', aW G 0 hm (nn k) x = some G' ∧ LfR G' c i r hs hl hm ht cap cnt sg fs fl (upd fm k x) ft ∧ Up i G c b G' c b :=
  ⟨_, aW_at h.2.2.2.2.1 hk (by omega), h.setM _, Up.set h.2.2.2.2.1 rfl (by have := h.1.2.2.2.1; omega)⟩
theorem LfR.wT (h : LfR G c i r hs hl hm ht cap cnt sg fs fl fm ft) {k : Nat} (x : Int32) (b : Nat) (hk : k < 8) : ∃ G', aW G 3 ht (nn k) x = some G' ∧ LfR G' c i r hs hl hm ht cap cnt sg fs fl fm (upd ft k x) ∧ Up i G c b G' c b :=
  ⟨_, aW_at h.2.2.2.2.2 hk (by omega), h.setT _, Up.set h.2.2.2.2.2 rfl (by have := h.1.2.2.2.2; omega)⟩
theorem LfR.s2 (h : LfR G c i r hs hl hm ht cap cnt sg fs fl fm ft) (x : Int32) (b : Nat) : ∃ G', fset G r 2 2 (.int x) = some G' ∧ LfR G' c i r hs hl hm ht cap x sg fs fl fm ft ∧ Up i G c b G' c b :=
  ⟨_, fset_at h.2.1 (by simp), h.setO x sg, Up.set h.2.1 rfl (by have := h.1.1; omega)⟩
theorem LfR.s3 (h : LfR G c i r hs hl hm ht cap cnt sg fs fl fm ft) (x : Int32) (b : Nat) : ∃ G', fset G r 2 3 (.int x) = some G' ∧ LfR G' c i r hs hl hm ht cap cnt x fs fl fm ft ∧ Up i G c b G' c b :=
  ⟨_, fset_at h.2.1 (by simp), h.setO cnt x, Up.set h.2.1 rfl (by have := h.1.1; omega)⟩
/-- copies within, and into a leaf out of another array -/
theorem LfR.cS (h : LfR G c i r hs hl hm ht cap cnt sg fs fl fm ft) {h0 sp dp n m0 : Nat} {f : Nat → Int32} (b : Nat) (e0 : G[h0]? = some (.inl (0, (m0, .inl f)))) (b0 : sp + n ≤ m0) (b1 : dp + n ≤ cap) (c0 : m0 ≤ 3000) (hn : cap ≤ 3000) : ∃ G', cp G h0 (nn sp) hs (nn dp) (nn n) = some G' ∧ LfR G' c i r hs hl hm ht cap cnt sg (va_cpy f fs sp dp n) fl fm ft ∧ Up i G c b G' c b :=
  ⟨_, cp_at e0 h.2.2.1 b0 b1 (by omega) (by omega), h.setS _, Up.set h.2.2.1 rfl (by have := h.1.2.1; omega)⟩
theorem LfR.cL (h : LfR G c i r hs hl hm ht cap cnt sg fs fl fm ft) {h0 sp dp n m0 : Nat} {f : Nat → Int32} (b : Nat) (e0 : G[h0]? = some (.inl (0, (m0, .inl f)))) (b0 : sp + n ≤ m0) (b1 : dp + n ≤ cap) (c0 : m0 ≤ 3000) (hn : cap ≤ 3000) : ∃ G', cp G h0 (nn sp) hl (nn dp) (nn n) = some G' ∧ LfR G' c i r hs hl hm ht cap cnt sg fs (va_cpy f fl sp dp n) fm ft ∧ Up i G c b G' c b :=
  ⟨_, cp_at e0 h.2.2.2.1 b0 b1 (by omega) (by omega), h.setL _, Up.set h.2.2.2.1 rfl (by have := h.1.2.2.1; omega)⟩
end RLs
/-- another leaf stays -/
theorem LfR.kept {G G' : zH} {c c' : Nat → Nat} {i j r hs hl hm ht cap : Nat} {cnt sg : Int32} {fs fl fm ft : Nat → Int32} (h : LfR G c j r hs hl hm ht cap cnt sg fs fl fm ft) (hf : Fr i G c G' c') (hn : j ≠ i) : LfR G' c' j r hs hl hm ht cap cnt sg fs fl fm ft := by
  obtain ⟨⟨c1, c2, c3, c4, c5⟩, h1, h2, h3, h4, h5⟩ := h
  obtain ⟨-, f2, f3⟩ := hf
  have k1 := G_lt h1
  have k2 := G_lt h2
  have k3 := G_lt h3
  have k4 := G_lt h4
  have k5 := G_lt h5
  refine ⟨⟨?_, ?_, ?_, ?_, ?_⟩, ?_, ?_, ?_, ?_, ?_⟩
  · rw [f2 _ k1]; exact c1
  · rw [f2 _ k2]; exact c2
  · rw [f2 _ k3]; exact c3
  · rw [f2 _ k4]; exact c4
  · rw [f2 _ k5]; exact c5
  · rw [f3 _ k1 (by omega)]; exact h1
  · rw [f3 _ k2 (by omega)]; exact h2
  · rw [f3 _ k3 (by omega)]; exact h3
  · rw [f3 _ k4 (by omega)]; exact h4
  · rw [f3 _ k5 (by omega)]; exact h5
