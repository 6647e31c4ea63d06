def R_law : String := "PieceBookLaw"
def lw_P (b : Addr) (xs : List Int32) (args : Array Value) (s : State) : Prop := args = #[.ref b] ∧ s.IntsAt b xs ∧ xs.length ≤ 2048 ∧ (Jvm.Cond.and given_1 narrow_1).before args s = true
def lw_Q (_ : Array Value) (s : State) (o : Outcome) (t : State) : Prop := o = .returned (some (.int 1)) ∧ Framed s o t [] 601024 7293034
def lw_Z (below : List Frame) (a : Array Value) (s : State) : State → Prop := fun t => ∃ o, t.status = .running ∧ Ended t below o ∧ lw_Q a s o t
/-- the law's own end, with 1 on the stack, nothing written that was there before, its room as the claim has it -/
theorem lw_ret {p : Program} {l : Launch} {e : Env} {s : State} {m : MethodId} {below : List Frame} {meth : Method} {c : Code} {b : Nat} (hx : p.tables.exec = Jvm.exec) (hb : c.code = code) (hr : meth.sig.returnType = ret) (hlocks : meth.locks = false) {pc : Nat} {H : Heap} {ls : Array Slot} (hdg : decode code pc = .ok (.ireturn, 1)) : W p l e room_1 s m #[Value.ref b] below meth c H [] 601024 7293034 (lw_Z below #[Value.ref b] s) (F0 m pc ls [.int 1]) := by
  intro T hT X
  obtain ⟨fs, hret, hrun, hended, hW, hframe⟩ := X.leave (v := some (.int 1)) (hlocks := hlocks) (fun h => by rw [hr] at h; cases h)
  have hmeth' : T.vm.method? m = some meth := X.method'
  refine ⟨T.setFrames fs, ?_, .returned (some (.int 1)), hrun, hended, rfl, ⟨_, rfl⟩, hW, hframe⟩
  jvm_step X.here [X.here.top, hx, hb, hdg, hmeth', hr, ret, narrow_b1]
  (try refine ⟨rfl, ?_⟩); (try refine ⟨rfl, ?_⟩)
  first | (intro acts; rw [hret _ acts rfl rfl rfl]) | rw [hret _ _ rfl rfl rfl]
  exact Steps.refl _
/-- what holds at the law's entry: the machine, the code, the tables' words (any of lw_tbl by 'hts w (by decide +kernel)'), the script of L ints xs at the cell b, what the Statement gives of the start (any of its parts by flat_of_before) -/
def lw_At (p : Program) (s : State) (m : MethodId) (meth : Method) (c : Code) (b L : Nat) (xs : Nat → Int32) : Prop :=
  p.tables.exec = Jvm.exec ∧ c.code = code ∧ meth.sig.returnType = ret ∧ c.maxLocals = 8 ∧ s.vm.findClass R_law = some m.cls ∧ (∀ w ∈ lw_tbl, w.before #[Value.ref b] s = true) ∧ va_X b L xs s s.heap ∧ b < s.heap.size ∧ meth.locks = false ∧ (Jvm.Cond.and given_1 narrow_1).before #[Value.ref b] s = true
/-! the law out of an invariant of its operations -/
abbrev fs6 : List Value := [.null, .int 0, .null, .null, .null, .null, .null, .null, .null, .null, .int 0, .null, .null, .int 0]
abbrev fs7 : List Value := [.int 0, .int 0, .null, .null, .int 0, .int 0, .null, .null, .int 0, .int 0, .null, .int 0, .null, .null, .null, .null, .null, .int 0, .null, .null, .int 0, .int 0, .null, .null, .null, .null, .null, .null, .null, .int 0, .int 0, .null, .null, .int 0]
/-- the invariant at the start: the two constructors, the out array -/
def LStart (Inv : Nat → zH → Prop) : Prop := ∃ (G6 G7 : zH), fX6_init [.inr (6, fs6)] 0 = some G6 ∧ 27 = G6.length ∧ gP G6 34 = some () ∧ fX7_init (G6 ++ [.inr (7, fs7)]) 27 = some G7 ∧ 49 = G7.length ∧ gN G7 1 = some 1 ∧ ∀ k, k ≤ 512 → Inv k (G7 ++ [.inl (1, (1, .inr (.inl (fun _ => 0))))])
theorem whole_of {Inv : Nat → zH → Prop} (hobj : ∀ k G, Inv k G → ∃ fs, G[0]? = some (.inr (6, fs))) (hmono : ∀ k G, Inv (k + 1) G → Inv k G) (ops : Ops Inv) (hst : LStart Inv) {p : Program} {e : Env} {s : State} {m : MethodId} {below : List Frame} {meth : Method} {c : Code} (l : Launch) (hflags : l.flags = flags0) {b L : Nat} {xs : Nat → Int32} (hL : L ≤ 2048) (C0 : lw_At p s m meth c b L xs) : W p l e room_1 s m #[Value.ref b] below meth c s.heap [] 0 0 (lw_Z below #[Value.ref b] s) (entryFrame m ([Value.ref b] : List Value).toArray 8) := by
  obtain ⟨q1, q2, q3, q4, q5, q6, q7, q8, q9, q10⟩ := C0
  obtain ⟨D, cA, hK⟩ := zK_start q6
  have h30 := zX3_start q6 q10
  have hl : l.stackTraces = false := by unfold Launch.stackTraces; rw [hflags]; decide +kernel
  obtain ⟨X, hX⟩ : ∃ X : zX, X = ((p, l, e, room_1, s), (m, #[Value.ref b], below, meth, c), (D, cA, s.heap.size, 8), [], lw_Z below #[Value.ref b] s) := ⟨_, rfl⟩
  have hI0 : zI D cA s.heap.size [] s.heap := ⟨rfl, fun k x hx => (nomatch hx), fun k x hx => (nomatch hx)⟩
  have C : LC X := by
    rw [hX]
    exact ⟨q1, q2, q3, q4, q5, fun w hw => q6 w (zT_sub hw), q9, hK, rfl, rfl, hI0⟩
  have hend : ∀ lv G, yZ X b 1732 lv [] G := by
    intro lv G
    refine y_iconst (pc := 1732) (v := 1) C dL_law_1732 rfl ?_
    intro ls H locs c1 c2 h1 h2 h3 h4
    refine z_tight C h2 (fun t1 t2 => ?_)
    rw [hX] at h4 t1 t2 ⊢
    refine va_forget (fun q hq => h4.2.2 q hq) ?_
    refine W.widen (k := 601024) (n := 7293034) (Nat.le_trans (Nat.sub_le _ _) h3.1) (Nat.le_trans (Nat.sub_le _ _) h3.2) ?_
    exact lw_ret q1 q2 q3 q9 dL_law_1733
  obtain ⟨G6, G7, e6, n6, p6, e7, n7, p7, hI⟩ := hst
  have key : yZ X b 0 [] [] [] := by
    refine y_gO (ci := 6) (pc := 0) (r := 0) (u := ()) (fs := fs6) C tyX6 dL_law_0 rfl uwX6 tyX6_ok ck_L_8 insX6 iniX6 dfX6 rfl (fun _ => rfl) (by decide) rfl rfl ?_
    refine y_dup (pc := 3) C dL_law_3 rfl ?_
    refine y_callIv (pc := 4) (h := 0) (As := []) (rest := [.ref 0]) C dL_law_4 ml_L_22 rfl (kX6_init _ _ _ _ _ 0 G6 e6) rfl rfl (Nat.le_of_ble_eq_true rfl) (by decide) ?_
    refine y_astore_n (pc := 7) C dL_law_7 rfl (by decide) (by decide) rfl ?_
    refine y_gO (ci := 7) (pc := 8) (r := 27) (u := ()) (fs := fs7) C tyX7 dL_law_8 rfl uwX7 tyX7_ok ck_L_23 insX7 iniX7 dfX7 rfl (fun _ => rfl) p6 n6 rfl ?_
    refine y_dup (pc := 11) C dL_law_11 rfl ?_
    refine y_callIv (pc := 12) (h := 27) (As := []) (rest := [.ref 27]) C dL_law_12 ml_L_25 rfl (kX7_init _ _ _ _ _ 27 G7 e7) rfl rfl (Nat.le_of_ble_eq_true rfl) (by decide) ?_
    refine y_astore_n (pc := 15) C dL_law_15 rfl (by decide) (by decide) rfl ?_
    refine y_iconst (pc := 16) (v := 1) C dL_law_16 rfl ?_
    refine y_gNj (pc := 17) (r := 49) C dL_law_17 p7 n7 rfl ?_
    refine y_astore_n (pc := 19) C dL_law_19 rfl (by decide) (by decide) rfl ?_
    refine y_iconst (pc := 20) (v := 0) C dL_law_20 rfl ?_
    refine y_istore (pc := 21) C dL_law_21 (by decide) (by decide) rfl ?_
    refine y_sub [3, 2, 1, 0] rfl ?_
    exact law_run C (by rw [hX]; exact hl) (by rw [hX]; exact h30) (by rw [hX]; exact q7) (by rw [hX]; exact q8) (by rw [hX]; exact q8) hL hobj hmono ops hend _ (hI _ (by omega))
  have hle := lv_entry [Value.ref b] (n := 8) (Nat.le_of_ble_eq_true rfl)
  rw [lg_entry_eq]
  generalize (lg_sl [Value.ref b] ++ List.replicate (8 - (lg_sl [Value.ref b]).length) Slot.unset).toArray = ls at hle ⊢
  have k2 := key ls s.heap [] 0 0
  rw [hX] at k2
  exact k2 hle hI0 ⟨Nat.zero_le _, Nat.zero_le _⟩ va_S.rf
