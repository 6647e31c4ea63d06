/-! questions: pair, nested -/
def brk (v : Nat) : Nat := if v = 40 then 0 else if v = 41 then 1 else if v = 91 then 2 else if v = 93 then 3 else if v = 123 then 4 else if v = 125 then 5 else 6
def prt (v : Nat) : Nat := if v = 40 then 41 else if v = 41 then 40 else if v = 91 then 93 else if v = 93 then 91 else if v = 123 then 125 else if v = 125 then 123 else 0
theorem partnerOf6 : ∀ v, v < 128 → fX6_partnerOf (nn v) = some (nn (prt v)) := by decide +kernel
theorem bracketOf7 : ∀ v, v < 128 → fX7_bracketOf (nn v) = some (if brk v = 6 then -1 else nn (brk v)) := by decide +kernel
theorem opensPair6 : ∀ v, v < 128 → fX6_opensPair (nn v) = some (nn (if brk v < 6 ∧ brk v % 2 = 0 then 1 else 0)) := by decide +kernel
theorem brk_le (v : Nat) : brk v ≤ 6 := by
  unfold brk
  repeat' split
  all_goals omega
theorem prt_zero : ∀ v, v < 128 → (prt v = 0 ↔ brk v = 6) := by decide +kernel
theorem prt_lt : ∀ v, v < 128 → prt v < 128 := by decide +kernel
theorem brk_same {v v' : Nat} (h : brk v < 6) : brk v' = brk v ↔ v' = v := by
  refine ⟨fun e => ?_, fun e => by rw [e]⟩
  unfold brk at h e
  repeat' split at h
  all_goals (repeat' split at e)
  all_goals omega
theorem brk_prt {v v' : Nat} (h : brk v < 6) : v' = prt v ↔ brk v' < 6 ∧ brk v' / 2 = brk v / 2 ∧ brk v' ≠ brk v := by
  unfold brk at h
  constructor
  · intro e
    subst e
    unfold brk prt
    repeat' split at h
    all_goals (subst_vars; try decide)
    all_goals omega
  · rintro ⟨h1, h2, h3⟩
    unfold brk at h1 h2 h3
    unfold prt
    repeat' split at h
    all_goals (try omega)
    all_goals (repeat' split at h1)
    all_goals (try omega)
    all_goals (subst_vars; simp_all)
/-- the bracket to one: by steps -/
def prF (t pos : Nat → Nat) (bk : Nat) : Nat → Nat → Nat → Option (Nat × Nat)
  | 0, _, _ => none
  | d + 1, op, dp => if t (pos d) = bk then prF t pos bk d (op + 1) (max dp (op + 1)) else if t (pos d) = prt bk then (if op - 1 = 0 then some (pos d, dp) else prF t pos bk d (op - 1) dp) else prF t pos bk d op dp
theorem prF_le {t pos : Nat → Nat} {bk d op dp q x : Nat} (h : prF t pos bk d op dp = some (q, x)) (hd : dp + d ≤ 3000) (ho : op ≤ dp) : x ≤ 3000 ∧ dp ≤ x := by
  induction d generalizing op dp with
  | zero => simp [prF] at h
  | succ d ih =>
    simp only [prF] at h
    split at h
    · have := ih h (by omega) (by omega)
      omega
    · split at h
      · split at h
        · cases h
          omega
        · have := ih h (by omega) (by omega)
          omega
      · have := ih h (by omega) (by omega)
        omega

theorem pair6u {G0 : zH} {c0 : Nat → Nat} {G : zH} {c1 b1 : Nat → Nat} {N n bk : Nat} {a : TA} {ro : TR} {st : TS} {s u f : Nat} {lv : Nat → Option Nat} {ke : TK} {pg qg : TP} {sc : Nat → Int32} {W : Nat → LVa} {St : Nat → Nat} {t w : Nat → Nat} (z1 : Cl G c1 b1 N (a.1, a.2.1, 0, a.2.2.2) ro st (s, u, f, lv) ke pg qg sc W) (z2 : PgTo pg (W s).1 St (sz (W s).1)) (z3 : Fo G0 c0 G c1) (h : PV G n t w) (hb : bk < 128) (hk : brk bk < 6) : ∀ d fu op dp, d ≤ n → d < fu → op ≤ dp → dp + d ≤ 3000 → (op = 0 → 1 ≤ d ∧ t (n - d) = bk) → (∀ q x, prF t (fun d => n - 1 - d) bk d op dp = some (q, x) → ok (fX6_pair_b58 fu G 0 20 (nn bk) (nn (prt bk)) (1 : Int32) (nn op) (nn dp) (nn (n - d))) (CQ G0 c0 N a a.2.1 (1, vp_updL ro.2 0 (nn (x - 1)).toInt64) st s u f ke W St (nn q))) ∧ (prF t (fun d => n - 1 - d) bk d op dp = none → ok (fX6_pair_b58 fu G 0 20 (nn bk) (nn (prt bk)) (1 : Int32) (nn op) (nn dp) (nn (n - d))) (CQ G0 c0 N a a.2.1 ro st s u f ke W St (-2))) := by
  obtain ⟨v1, v2, v3, v4, v5, v6, v7⟩ := h
  have hpl := prt_lt bk hb
  intro d
  induction d with
  | zero =>
    intro fu op dp hd hfu hod _ h0
    obtain ⟨fu', rfl⟩ : ∃ f', fu = f' + 1 := ⟨fu - 1, by omega⟩
    refine ⟨fun q x h => by simp [prF] at h, fun _ => ?_⟩
    unfold fX6_pair_b58
    refine ifn (by rw [nn_neg (by omega)]; exact id) ?_
    refine sa1 v2 ?_
    refine ift (by rw [nn_le (by omega) (by omega)]; omega) ?_
    exact CQ_ret z1 z3 (by omega) (fun _ => z2)
  | succ d ih =>
    intro fu op dp hd hfu hod hdd h0
    obtain ⟨fu', rfl⟩ : ∃ f', fu = f' + 1 := ⟨fu - 1, by omega⟩
    have hq : (n - 1 - d) < n := by omega
    have h7 := v7 (n - 1 - d) hq
    have hx : (nn (n - (d + 1))) = nn (n - 1 - d) := by congr 1; omega
    have hnx : nn (n - 1 - d) + (1 : Int32) = (nn (n - d)) := by rw [q1, nn_add]; congr 1; omega
    rw [hx]
    simp only [prF]
    unfold fX6_pair_b58 fX6_pair_b131
    rw [if_neg (show ¬ nn (n - 1 - d) < 0 by rw [nn_neg (by omega)]; exact id), v2, ob1_some, if_neg (show ¬ nn n ≤ nn (n - 1 - d) by rw [nn_le (by omega) (by omega)]; omega), v1, ob1_some, v3 _ hq, ob1_some, if_eq (by omega) (by omega)]
    by_cases e1 : t (n - 1 - d) = bk
    · rw [if_pos e1, if_pos e1, q1, nn_add, zlt, if_lt (by omega) (by omega), nn_if, zlt, zlt, show (if dp < op + 1 then op + 1 else dp) = max dp (op + 1) by split <;> omega]
      first | rw [hnx] | (rw [← q1]; rw [hnx])
      exact ih fu' (op + 1) (max dp (op + 1)) (by omega) (by omega) (by omega) (by omega) (by omega)
    · have hop : ¬ op = 0 := by
        intro e0
        have := (h0 e0).2
        rw [show (n - (d + 1)) = (n - 1 - d) by omega] at this
        exact e1 this
      rw [if_neg e1, if_neg e1, if_eq (by omega) (by omega)]
      by_cases e2 : t (n - 1 - d) = prt bk
      · rw [if_pos e2, if_pos e2, nn_dec (by omega), zlt, q0, if_eq (by omega) (by omega)]
        by_cases e3 : op - 1 = 0
        · rw [if_pos e3, if_pos e3]
          refine ⟨fun q x hh => ?_, fun hh => by cases hh⟩
          cases hh
          refine sa1 z1.1.r0_2 ?_
          refine sa1 z1.1.io2 ?_
          rw [q1, nn_sub (by omega)]
          exact CQ_t1 z1 z3 (by omega) (fun _ => z2) _
        · rw [if_neg e3, if_neg e3, zlt, hnx]
          exact ih fu' (op - 1) dp (by omega) (by omega) (by omega) (by omega) (by omega)
      · rw [if_neg e2, if_neg e2, zlt, hnx]
        exact ih fu' op dp (by omega) (by omega) (by omega) (by omega) (by omega)
theorem pair7u {M : MS} {P : PC} {n bk : Nat} {t : Nat → Nat} (h : RV M n t) (hB : RBk M P) (hn : n = sz P) (hb : bk < 128) (hk : brk bk < 6) : ∀ d fu op dp, d ≤ n → d < fu → op ≤ dp → dp + d ≤ 3000 → (op = 0 → 1 ≤ d ∧ t (n - d) = bk) → (∀ q x, prF t (fun d => n - 1 - d) bk d op dp = some (q, x) → fX7_pair_b52 fu M (nn (brk bk)) (1 : Int32) (nn op) (nn dp) (nn (n - d)) = some (nn q, tl1 M (nn (x - 1)).toInt64)) ∧ (prF t (fun d => n - 1 - d) bk d op dp = none → fX7_pair_b52 fu M (nn (brk bk)) (1 : Int32) (nn op) (nn dp) (nn (n - d)) = some (-2, M)) := by
  have hRV := h
  obtain ⟨v1, v3, v6, v7⟩ := h
  intro d
  induction d with
  | zero =>
    intro fu op dp hd hfu hod _ h0
    obtain ⟨fu', rfl⟩ : ∃ f', fu = f' + 1 := ⟨fu - 1, by omega⟩
    refine ⟨fun q x h => by simp [prF] at h, fun _ => ?_⟩
    unfold fX7_pair_b52
    rw [isSign7_sp hB (by omega), ob1_some, if_pos (by rw [if_neg (by omega)]; rfl)]
  | succ d ih =>
    intro fu op dp hd hfu hod hdd h0
    obtain ⟨fu', rfl⟩ : ∃ f', fu = f' + 1 := ⟨fu - 1, by omega⟩
    have hq : (n - 1 - d) < n := by omega
    have h7 := v7 (n - 1 - d) hq
    have hbl := brk_le (t (n - 1 - d))
    have hx : (nn (n - (d + 1))) = nn (n - 1 - d) := by congr 1; omega
    have hnx : nn (n - 1 - d) + (1 : Int32) = (nn (n - d)) := by rw [q1, nn_add]; congr 1; omega
    rw [hx]
    simp only [prF]
    unfold fX7_pair_b52
    rw [isSign7_sp hB (by omega), ob1_some, if_neg (show ¬ nn (if (n - 1 - d) < sz P then 1 else 0) = 0 by rw [if_pos (by omega)]; decide), v3 _ hq, ob1_some, bracketOf7 _ (by omega), ob1_some]
    have b134 : fX7_pair_b134 (fX7_pair_b52 fu') M (nn (brk bk)) (1 : Int32) (nn op) (nn dp) (nn (n - 1 - d)) = fX7_pair_b52 fu' M (nn (brk bk)) (1 : Int32) (nn op) (nn dp) (nn (n - d)) := by
      unfold fX7_pair_b134
      rw [zlt, hnx]
    by_cases e1 : t (n - 1 - d) = bk
    · rw [if_pos e1, e1, if_neg (show ¬ brk bk = 6 by omega), if_neg (show ¬ nn (brk bk) < 0 by rw [nn_neg (by omega)]; exact id), if_pos (show nn (brk bk) / 2 = nn (brk bk) / 2 from rfl), if_pos (show nn (brk bk) = nn (brk bk) from rfl)]
      unfold fX7_pair_b100 fX7_pair_b134
      rw [q1, nn_add, zlt, if_lt (by omega) (by omega), nn_if, zlt, if_neg (by rw [q0, nn_eq (by omega) (by omega)]; omega), zlt, show (if dp < op + 1 then op + 1 else dp) = max dp (op + 1) by split <;> omega]
      first | rw [hnx] | (rw [← q1]; rw [hnx])
      exact ih fu' (op + 1) (max dp (op + 1)) (by omega) (by omega) (by omega) (by omega) (by omega)
    · have hop : ¬ op = 0 := by
        intro e0
        have := (h0 e0).2
        rw [show (n - (d + 1)) = (n - 1 - d) by omega] at this
        exact e1 this
      rw [if_neg e1]
      by_cases e2 : t (n - 1 - d) = prt bk
      · have hbp := (brk_prt hk).mp e2
        rw [if_pos e2, if_neg (show ¬ brk (t (n - 1 - d)) = 6 by omega), if_neg (show ¬ nn (brk (t (n - 1 - d))) < 0 by rw [nn_neg (by omega)]; exact id), if_pos (show nn (brk (t (n - 1 - d))) / 2 = nn (brk bk) / 2 by rw [q2, nn_div (by omega) (by omega), nn_div (by omega) (by omega), hbp.2.1]), if_neg (show ¬ nn (brk (t (n - 1 - d))) = nn (brk bk) by rw [nn_eq (by omega) (by omega)]; exact hbp.2.2)]
        unfold fX7_pair_b100
        rw [nn_dec (by omega), zlt, if_lt (by omega) (by omega), nn_if, zlt, q0, if_eq (by omega) (by omega), show (if dp < op - 1 then op - 1 else dp) = dp by split <;> omega]
        by_cases e3 : op - 1 = 0
        · rw [if_pos e3, if_pos e3]
          refine ⟨fun q x hh => ?_, fun hh => by cases hh⟩
          cases hh
          rw [zlt, q1, nn_sub (by omega)]
          show ob1 (fX7_enters (mI M 1 0) _) _ = _
          rw [tl1_sp, ob1_some]
        · rw [if_neg e3, if_neg e3]
          unfold fX7_pair_b134
          rw [zlt, hnx]
          exact ih fu' (op - 1) dp (by omega) (by omega) (by omega) (by omega) (by omega)
      · rw [if_neg e2]
        have hih := ih fu' op dp (by omega) (by omega) (by omega) (by omega) (by omega)
        by_cases e4 : brk (t (n - 1 - d)) = 6
        · rw [if_pos e4, if_pos (show (-1 : Int32) < 0 by decide), b134]
          exact hih
        · rw [if_neg e4, if_neg (show ¬ nn (brk (t (n - 1 - d))) < 0 by rw [nn_neg (by omega)]; exact id), if_neg (show ¬ nn (brk (t (n - 1 - d))) / 2 = nn (brk bk) / 2 by
            rw [q2, nn_div (by omega) (by omega), nn_div (by omega) (by omega), nn_eq (by omega) (by omega)]
            intro hh
            by_cases e5 : brk (t (n - 1 - d)) = brk bk
            · exact e1 ((brk_same hk).mp e5)
            · exact e2 ((brk_prt hk).mpr ⟨by omega, hh, e5⟩)), b134]
          exact hih
theorem pair6d {G0 : zH} {c0 : Nat → Nat} {G : zH} {c1 b1 : Nat → Nat} {N n bk : Nat} {a : TA} {ro : TR} {st : TS} {s u f : Nat} {lv : Nat → Option Nat} {ke : TK} {pg qg : TP} {sc : Nat → Int32} {W : Nat → LVa} {St : Nat → Nat} {t w : Nat → Nat} (z1 : Cl G c1 b1 N (a.1, a.2.1, 0, a.2.2.2) ro st (s, u, f, lv) ke pg qg sc W) (z2 : PgTo pg (W s).1 St (sz (W s).1)) (z3 : Fo G0 c0 G c1) (h : PV G n t w) (hb : bk < 128) (hk : brk bk < 6) : ∀ d fu op dp, d ≤ n → d < fu → op ≤ dp → dp + d ≤ 3000 → (op = 0 → 1 ≤ d ∧ t (d - 1) = bk) → (∀ q x, prF t (fun d => d) bk d op dp = some (q, x) → ok (fX6_pair_b58 fu G 0 20 (nn bk) (nn (prt bk)) (-1 : Int32) (nn op) (nn dp) (nn d - 1)) (CQ G0 c0 N a a.2.1 (1, vp_updL ro.2 0 (nn (x - 1)).toInt64) st s u f ke W St (nn q))) ∧ (prF t (fun d => d) bk d op dp = none → ok (fX6_pair_b58 fu G 0 20 (nn bk) (nn (prt bk)) (-1 : Int32) (nn op) (nn dp) (nn d - 1)) (CQ G0 c0 N a a.2.1 ro st s u f ke W St (-2))) := by
  obtain ⟨v1, v2, v3, v4, v5, v6, v7⟩ := h
  have hpl := prt_lt bk hb
  intro d
  induction d with
  | zero =>
    intro fu op dp hd hfu hod _ h0
    obtain ⟨fu', rfl⟩ : ∃ f', fu = f' + 1 := ⟨fu - 1, by omega⟩
    refine ⟨fun q x h => by simp [prF] at h, fun _ => ?_⟩
    unfold fX6_pair_b58
    refine ift (by decide) ?_
    exact CQ_ret z1 z3 (by omega) (fun _ => z2)
  | succ d ih =>
    intro fu op dp hd hfu hod hdd h0
    obtain ⟨fu', rfl⟩ : ∃ f', fu = f' + 1 := ⟨fu - 1, by omega⟩
    have hq : (d) < n := by omega
    have h7 := v7 (d) hq
    have hx : (nn (d + 1) - 1) = nn (d) := by rw [q1, nn_sub (by omega), Nat.add_sub_cancel]
    have hnx : nn (d) + (-1 : Int32) = (nn d - 1) := by rw [Int32.sub_eq_add_neg]
    rw [hx]
    simp only [prF]
    unfold fX6_pair_b58 fX6_pair_b131
    rw [if_neg (show ¬ nn (d) < 0 by rw [nn_neg (by omega)]; exact id), v2, ob1_some, if_neg (show ¬ nn n ≤ nn (d) by rw [nn_le (by omega) (by omega)]; omega), v1, ob1_some, v3 _ hq, ob1_some, if_eq (by omega) (by omega)]
    by_cases e1 : t (d) = bk
    · rw [if_pos e1, if_pos e1, q1, nn_add, zlt, if_lt (by omega) (by omega), nn_if, zlt, zlt, show (if dp < op + 1 then op + 1 else dp) = max dp (op + 1) by split <;> omega]
      first | rw [hnx] | (rw [← q1]; rw [hnx])
      exact ih fu' (op + 1) (max dp (op + 1)) (by omega) (by omega) (by omega) (by omega) (by omega)
    · have hop : ¬ op = 0 := by
        intro e0
        have := (h0 e0).2
        rw [show (d + 1 - 1) = (d) by omega] at this
        exact e1 this
      rw [if_neg e1, if_neg e1, if_eq (by omega) (by omega)]
      by_cases e2 : t (d) = prt bk
      · rw [if_pos e2, if_pos e2, nn_dec (by omega), zlt, q0, if_eq (by omega) (by omega)]
        by_cases e3 : op - 1 = 0
        · rw [if_pos e3, if_pos e3]
          refine ⟨fun q x hh => ?_, fun hh => by cases hh⟩
          cases hh
          refine sa1 z1.1.r0_2 ?_
          refine sa1 z1.1.io2 ?_
          rw [q1, nn_sub (by omega)]
          exact CQ_t1 z1 z3 (by omega) (fun _ => z2) _
        · rw [if_neg e3, if_neg e3, zlt, hnx]
          exact ih fu' (op - 1) dp (by omega) (by omega) (by omega) (by omega) (by omega)
      · rw [if_neg e2, if_neg e2, zlt, hnx]
        exact ih fu' op dp (by omega) (by omega) (by omega) (by omega) (by omega)
theorem pair7d {M : MS} {P : PC} {n bk : Nat} {t : Nat → Nat} (h : RV M n t) (hB : RBk M P) (hn : n = sz P) (hb : bk < 128) (hk : brk bk < 6) : ∀ d fu op dp, d ≤ n → d < fu → op ≤ dp → dp + d ≤ 3000 → (op = 0 → 1 ≤ d ∧ t (d - 1) = bk) → (∀ q x, prF t (fun d => d) bk d op dp = some (q, x) → fX7_pair_b52 fu M (nn (brk bk)) (-1 : Int32) (nn op) (nn dp) (nn d - 1) = some (nn q, tl1 M (nn (x - 1)).toInt64)) ∧ (prF t (fun d => d) bk d op dp = none → fX7_pair_b52 fu M (nn (brk bk)) (-1 : Int32) (nn op) (nn dp) (nn d - 1) = some (-2, M)) := by
  have hRV := h
  obtain ⟨v1, v3, v6, v7⟩ := h
  intro d
  induction d with
  | zero =>
    intro fu op dp hd hfu hod _ h0
    obtain ⟨fu', rfl⟩ : ∃ f', fu = f' + 1 := ⟨fu - 1, by omega⟩
    refine ⟨fun q x h => by simp [prF] at h, fun _ => ?_⟩
    unfold fX7_pair_b52
    rw [isSign7_neg (show nn 0 - 1 < 0 by decide), ob1_some, if_pos (by rfl)]
  | succ d ih =>
    intro fu op dp hd hfu hod hdd h0
    obtain ⟨fu', rfl⟩ : ∃ f', fu = f' + 1 := ⟨fu - 1, by omega⟩
    have hq : (d) < n := by omega
    have h7 := v7 (d) hq
    have hbl := brk_le (t (d))
    have hx : (nn (d + 1) - 1) = nn (d) := by rw [q1, nn_sub (by omega), Nat.add_sub_cancel]
    have hnx : nn (d) + (-1 : Int32) = (nn d - 1) := by rw [Int32.sub_eq_add_neg]
    rw [hx]
    simp only [prF]
    unfold fX7_pair_b52
    rw [isSign7_sp hB (by omega), ob1_some, if_neg (show ¬ nn (if (d) < sz P then 1 else 0) = 0 by rw [if_pos (by omega)]; decide), v3 _ hq, ob1_some, bracketOf7 _ (by omega), ob1_some]
    have b134 : fX7_pair_b134 (fX7_pair_b52 fu') M (nn (brk bk)) (-1 : Int32) (nn op) (nn dp) (nn (d)) = fX7_pair_b52 fu' M (nn (brk bk)) (-1 : Int32) (nn op) (nn dp) (nn d - 1) := by
      unfold fX7_pair_b134
      rw [zlt, hnx]
    by_cases e1 : t (d) = bk
    · rw [if_pos e1, e1, if_neg (show ¬ brk bk = 6 by omega), if_neg (show ¬ nn (brk bk) < 0 by rw [nn_neg (by omega)]; exact id), if_pos (show nn (brk bk) / 2 = nn (brk bk) / 2 from rfl), if_pos (show nn (brk bk) = nn (brk bk) from rfl)]
      unfold fX7_pair_b100 fX7_pair_b134
      rw [q1, nn_add, zlt, if_lt (by omega) (by omega), nn_if, zlt, if_neg (by rw [q0, nn_eq (by omega) (by omega)]; omega), zlt, show (if dp < op + 1 then op + 1 else dp) = max dp (op + 1) by split <;> omega]
      first | rw [hnx] | (rw [← q1]; rw [hnx])
      exact ih fu' (op + 1) (max dp (op + 1)) (by omega) (by omega) (by omega) (by omega) (by omega)
    · have hop : ¬ op = 0 := by
        intro e0
        have := (h0 e0).2
        rw [show (d + 1 - 1) = (d) by omega] at this
        exact e1 this
      rw [if_neg e1]
      by_cases e2 : t (d) = prt bk
      · have hbp := (brk_prt hk).mp e2
        rw [if_pos e2, if_neg (show ¬ brk (t (d)) = 6 by omega), if_neg (show ¬ nn (brk (t (d))) < 0 by rw [nn_neg (by omega)]; exact id), if_pos (show nn (brk (t (d))) / 2 = nn (brk bk) / 2 by rw [q2, nn_div (by omega) (by omega), nn_div (by omega) (by omega), hbp.2.1]), if_neg (show ¬ nn (brk (t (d))) = nn (brk bk) by rw [nn_eq (by omega) (by omega)]; exact hbp.2.2)]
        unfold fX7_pair_b100
        rw [nn_dec (by omega), zlt, if_lt (by omega) (by omega), nn_if, zlt, q0, if_eq (by omega) (by omega), show (if dp < op - 1 then op - 1 else dp) = dp by split <;> omega]
        by_cases e3 : op - 1 = 0
        · rw [if_pos e3, if_pos e3]
          refine ⟨fun q x hh => ?_, fun hh => by cases hh⟩
          cases hh
          rw [zlt, q1, nn_sub (by omega)]
          show ob1 (fX7_enters (mI M 1 0) _) _ = _
          rw [tl1_sp, ob1_some]
        · rw [if_neg e3, if_neg e3]
          unfold fX7_pair_b134
          rw [zlt, hnx]
          exact ih fu' (op - 1) dp (by omega) (by omega) (by omega) (by omega) (by omega)
      · rw [if_neg e2]
        have hih := ih fu' op dp (by omega) (by omega) (by omega) (by omega) (by omega)
        by_cases e4 : brk (t (d)) = 6
        · rw [if_pos e4, if_pos (show (-1 : Int32) < 0 by decide), b134]
          exact hih
        · rw [if_neg e4, if_neg (show ¬ nn (brk (t (d))) < 0 by rw [nn_neg (by omega)]; exact id), if_neg (show ¬ nn (brk (t (d))) / 2 = nn (brk bk) / 2 by
            rw [q2, nn_div (by omega) (by omega), nn_div (by omega) (by omega), nn_eq (by omega) (by omega)]
            intro hh
            by_cases e5 : brk (t (d)) = brk bk
            · exact e1 ((brk_same hk).mp e5)
            · exact e2 ((brk_prt hk).mpr ⟨by omega, hh, e5⟩)), b134]
          exact hih
