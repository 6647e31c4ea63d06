/-! an act is done -/
theorem AF.to6 {S S1 : SS} {r : Int32} {f6 : zH → Option (Int32 × zH)} (h : C6 S S1 r f6) {G : zH} {c : Nat → Nat} {n : Nat} (hC : CS G c n S) : ok (ob2 (f6 G) fun v G => some (v, G)) fun z => z.1 = r ∧ ∃ c1, CS z.2 c1 n S1 ∧ Fo G c z.2 c1 := by
  rw [ob2_id]
  exact h G c n hC
theorem ob3_id {x : Option (Int32 × MS × zH)} : (ob3 x fun v M B => some (v, M, B)) = x := by
  cases x with
  | none => rfl
  | some z => rfl
theorem act_do {T : Nat → Nat} {m p : Nat} (hm : m ≤ 80) (hp : p < m) (hv : vA T m p) : ∀ S, SA S → S.1.1 = T → ∃ S1 r, SA S1 ∧ C6 S S1 r (fun G => fX6_doAct G 0 (nn p)) ∧ (∀ A M B n Sf i, RS A M B (n + 3016) Sf S → AR M T i p → i < 80 → ∃ M1 K, fX7_does A M B (nn i) = some (r, M1, B ++ K) ∧ RS A M1 (B ++ K) n Sf S1 ∧ Fk M M1) ∧ Kt S S1 := by
  rintro ⟨⟨T', St, kd⟩, ⟨tx, ts, tb⟩, ro, st, ⟨s, u, f⟩, ke, W⟩ hS hTT
  change T' = T at hTT
  subst hTT
  obtain ⟨v1, v2, v3⟩ := hv
  have htx := (hS.1 p (by omega)).1
  change tx p = nn (T' p) at htx
  have hdg : ∀ k0 d, 1 ≤ k0 → k0 + d ≤ lenA (T' p) → (∀ j, j < d → ¬ (T' p = 105 ∧ k0 + j = 5)) → ∀ j, j < d → 48 ≤ T' (p + k0 + j) := by
    intro k0 d h1 h2 h3 j hj
    have := v3 (k0 + j) (by omega) (by omega)
    rw [← Nat.add_assoc] at this
    exact ((ms_d (h3 j hj)).1.mp this).1
  rcases lenA_n v1 with (e | e | e) | e | e | e | e
  · obtain ⟨S1, r, k1, k2, k3, k4⟩ := A_heals _ hS
    refine ⟨S1, r, k1, ?_, ?_, k4⟩
    · intro G c n hC
      have hC' := hC
      obtain ⟨bu, old, lv, pg, qg, sc, h1, h2, h3⟩ := hC'
      show ok (fX6_doAct G 0 (nn p)) _
      unfold fX6_doAct
      refine sa1 h1.1.r0_0 ?_
      refine sa1 (aR_at h1.1.g1 (by omega) (by omega)) ?_
      rw [show (tx, ts, old, tb).1 p = nn 104 by rw [← e]; exact htx]
      refine ifn (by decide) (ifn (by decide) (ifn (by decide) (ifn (by decide) (ift (by decide) ?_))))
      refine sa1 h1.1.io0 ?_
      exact AF.to6 k2 hC
    · intro A M B n Sf i hR hA hi
      obtain ⟨M1, K, d1, d2, d3⟩ := k3 A M B n Sf hR
      refine ⟨M1, K, ?_, d2, d3⟩
      unfold fX7_does
      rw [rd_nn hi (by omega), ob1_some, hA.1, e, if_neg (by decide), if_neg (by decide), if_neg (by decide), if_neg (by decide), if_pos (by decide), ob3_id]
      exact d1
  · obtain ⟨S1, r, k1, k2, k3, k4⟩ := A_undo _ hS
    refine ⟨S1, r, k1, ?_, ?_, k4⟩
    · intro G c n hC
      have hC' := hC
      obtain ⟨bu, old, lv, pg, qg, sc, h1, h2, h3⟩ := hC'
      show ok (fX6_doAct G 0 (nn p)) _
      unfold fX6_doAct
      refine sa1 h1.1.r0_0 ?_
      refine sa1 (aR_at h1.1.g1 (by omega) (by omega)) ?_
      rw [show (tx, ts, old, tb).1 p = nn 117 by rw [← e]; exact htx]
      refine ifn (by decide) (ifn (by decide) (ifn (by decide) (ifn (by decide) (ifn (by decide) (ifn (by decide) (ifn (by decide) (ifn (by decide) (ifn (by decide) (ifn (by decide) (ifn (by decide) (ifn (by decide) (ifn (by decide) (ifn (by decide) (ifn (by decide) (ifn (by decide) (ifn (by decide) (ift (by decide) ?_)))))))))))))))))
      refine sa1 h1.1.io0 ?_
      exact AF.to6 k2 hC
    · intro A M B n Sf i hR hA hi
      obtain ⟨M1, K, d1, d2, d3⟩ := k3 A M B n Sf hR
      refine ⟨M1, K, ?_, d2, d3⟩
      unfold fX7_does
      rw [rd_nn hi (by omega), ob1_some, hA.1, e, if_neg (by decide), if_neg (by decide), if_neg (by decide), if_neg (by decide), if_neg (by decide), if_neg (by decide), if_neg (by decide), if_neg (by decide), if_neg (by decide), if_neg (by decide), if_neg (by decide), if_neg (by decide), if_neg (by decide), if_neg (by decide), if_neg (by decide), if_neg (by decide), if_neg (by decide), if_pos (by decide), ob3_id]
      exact d1
  · obtain ⟨S1, r, k1, k2, k3, k4⟩ := A_redo _ hS
    refine ⟨S1, r, k1, ?_, ?_, k4⟩
    · intro G c n hC
      have hC' := hC
      obtain ⟨bu, old, lv, pg, qg, sc, h1, h2, h3⟩ := hC'
      show ok (fX6_doAct G 0 (nn p)) _
      unfold fX6_doAct
      refine sa1 h1.1.r0_0 ?_
      refine sa1 (aR_at h1.1.g1 (by omega) (by omega)) ?_
      rw [show (tx, ts, old, tb).1 p = nn 114 by rw [← e]; exact htx]
      refine ifn (by decide) (ifn (by decide) (ifn (by decide) (ifn (by decide) (ifn (by decide) (ifn (by decide) (ifn (by decide) (ifn (by decide) (ifn (by decide) (ifn (by decide) (ifn (by decide) (ifn (by decide) (ifn (by decide) (ifn (by decide) (ift (by decide) ?_))))))))))))))
      refine sa1 h1.1.io0 ?_
      exact AF.to6 k2 hC
    · intro A M B n Sf i hR hA hi
      obtain ⟨M1, K, d1, d2, d3⟩ := k3 A M B n Sf hR
      refine ⟨M1, K, ?_, d2, d3⟩
      unfold fX7_does
      rw [rd_nn hi (by omega), ob1_some, hA.1, e, if_neg (by decide), if_neg (by decide), if_neg (by decide), if_neg (by decide), if_neg (by decide), if_neg (by decide), if_neg (by decide), if_neg (by decide), if_neg (by decide), if_neg (by decide), if_neg (by decide), if_neg (by decide), if_neg (by decide), if_neg (by decide), if_pos (by decide), ob3_id]
      exact d1
  · have hlen : lenA (T' p) = 7 := by rw [e]; rfl
    obtain ⟨S1, r, k1, k2, k3, k4⟩ := A_takes (nn (num T' (p + 1) 4)) (nn (num T' (p + 5) 2)) _ hS
    refine ⟨S1, r, k1, ?_, ?_, k4⟩
    · intro G c n hC
      have hC' := hC
      obtain ⟨bu, old, lv, pg, qg, sc, h1, h2, h3⟩ := hC'
      show ok (fX6_doAct G 0 (nn p)) _
      unfold fX6_doAct
      refine sa1 h1.1.r0_0 ?_
      refine sa1 (aR_at h1.1.g1 (by omega) (by omega)) ?_
      rw [show (tx, ts, old, tb).1 p = nn 100 by rw [← e]; exact htx]
      refine ift (by decide) ?_
      refine sa1 h1.1.io0 ?_
      rw [q1, q4, nn_add]
      refine sa1 (num6 h1.1 hS.1 (by omega) (hdg 1 4 (by omega) (by omega) (by omega))) ?_
      refine sa1 h1.1.io0 ?_
      rw [q5, q2, nn_add]
      refine sa1 (num6 h1.1 hS.1 (by omega) (hdg 5 2 (by omega) (by omega) (by omega))) ?_
      refine sa1 h1.1.io0 ?_
      exact AF.to6 k2 hC
    · intro A M B n Sf i hR hA hi
      obtain ⟨M1, K, d1, d2, d3⟩ := k3 A M B n Sf hR
      refine ⟨M1, K, ?_, d2, d3⟩
      unfold fX7_does
      rw [rd_nn hi (by omega), ob1_some, hA.1, e, if_pos (by decide), rd_nn hi (by omega), ob1_some, hA.2.1 (by omega), rd_nn hi (by omega), ob1_some, hA.2.2.2.1 (by omega), ob3_id]
      exact d1
  · have hlen : lenA (T' p) = 6 := by rw [e]; rfl
    obtain ⟨S1, r, k1, k2, k3, k4⟩ := A_type (nn (num T' (p + 1) 4)) (nn (lt' (T' (p + 5)))) _ hS
    refine ⟨S1, r, k1, ?_, ?_, k4⟩
    · intro G c n hC
      have hC' := hC
      obtain ⟨bu, old, lv, pg, qg, sc, h1, h2, h3⟩ := hC'
      have htx5 := hS.1 (p + 5) (by omega)
      show ok (fX6_doAct G 0 (nn p)) _
      unfold fX6_doAct
      refine sa1 h1.1.r0_0 ?_
      refine sa1 (aR_at h1.1.g1 (by omega) (by omega)) ?_
      rw [show (tx, ts, old, tb).1 p = nn 105 by rw [← e]; exact htx]
      refine ifn (by decide) (ifn (by decide) (ifn (by decide) (ifn (by decide) (ifn (by decide) (ift (by decide) ?_)))))
      refine sa1 h1.1.r0_0 ?_
      refine sa1 (aL_at h1.1.g1) ?_
      rw [q5, nn_add]
      refine ifn (by rw [nn_le (by omega) (by omega)]; omega) ?_
      refine sa1 h1.1.r0_0 ?_
      refine sa1 (aR_at h1.1.g1 (by omega) (by omega)) ?_
      rw [show (tx, ts, old, tb).1 (p + 5) = nn (T' (p + 5)) from htx5.1]
      unfold fX6_doAct_b115
      refine sa1 h1.1.io0 ?_
      rw [q1, q4, nn_add]
      refine sa1 (num6 h1.1 hS.1 (by omega) (hdg 1 4 (by omega) (by omega) (by omega))) ?_
      have hle := htx5.2
      have b137 : ok (fX6_doAct_b137 G (nn (lt' (T' (p + 5)))) (nn (num T' (p + 1) 4)) 0) fun z => z.1 = r ∧ ∃ c1, CS z.2 c1 n S1 ∧ Fo G c z.2 c1 := by
        unfold fX6_doAct_b137
        refine sa1 h1.1.io0 ?_
        exact AF.to6 k2 hC
      unfold lt' at b137
      by_cases e7 : T' (p + 5) = 47
      · rw [if_pos e7] at b137
        refine ift (by rw [e7]; decide) ?_
        exact b137
      · rw [if_neg e7] at b137
        refine ifn (by rw [q47, nn_eq (by omega) (by omega)]; exact e7) ?_
        exact b137
    · intro A M B n Sf i hR hA hi
      obtain ⟨M1, K, d1, d2, d3⟩ := k3 A M B n Sf hR
      refine ⟨M1, K, ?_, d2, d3⟩
      unfold fX7_does
      rw [rd_nn hi (by omega), ob1_some, hA.1, e, if_neg (by decide), if_neg (by decide), if_neg (by decide), if_neg (by decide), if_neg (by decide), if_pos (by decide), rd_nn hi (by omega), ob1_some, hA.2.1 (by omega), rd_nn hi (by omega), ob1_some, hA.2.2.1 e, ob3_id]
      exact d1
  · have hlen : lenA (T' p) = 11 := by rw [e]; rfl
    obtain ⟨S1, r, k1, k2, k3, k4⟩ := A_lays (nn (num T' (p + 1) 4)) (nn (num T' (p + 5) 2)) (nn (num T' (p + 7) 4)) _ hS
    refine ⟨S1, r, k1, ?_, ?_, k4⟩
    · intro G c n hC
      have hC' := hC
      obtain ⟨bu, old, lv, pg, qg, sc, h1, h2, h3⟩ := hC'
      show ok (fX6_doAct G 0 (nn p)) _
      unfold fX6_doAct
      refine sa1 h1.1.r0_0 ?_
      refine sa1 (aR_at h1.1.g1 (by omega) (by omega)) ?_
      rw [show (tx, ts, old, tb).1 p = nn 108 by rw [← e]; exact htx]
      refine ifn (by decide) (ifn (by decide) (ifn (by decide) (ifn (by decide) (ifn (by decide) (ifn (by decide) (ifn (by decide) (ifn (by decide) (ift (by decide) ?_))))))))
      refine sa1 h1.1.io0 ?_
      rw [q1, q4, nn_add]
      refine sa1 (num6 h1.1 hS.1 (by omega) (hdg 1 4 (by omega) (by omega) (by omega))) ?_
      refine sa1 h1.1.io0 ?_
      rw [q5, q2, nn_add]
      refine sa1 (num6 h1.1 hS.1 (by omega) (hdg 5 2 (by omega) (by omega) (by omega))) ?_
      refine sa1 h1.1.io0 ?_
      rw [q7, nn_add]
      refine sa1 (num6 h1.1 hS.1 (by omega) (hdg 7 4 (by omega) (by omega) (by omega))) ?_
      refine sa1 h1.1.io0 ?_
      exact AF.to6 k2 hC
    · intro A M B n Sf i hR hA hi
      obtain ⟨M1, K, d1, d2, d3⟩ := k3 A M B n Sf hR
      refine ⟨M1, K, ?_, d2, d3⟩
      unfold fX7_does
      rw [rd_nn hi (by omega), ob1_some, hA.1, e, if_neg (by decide), if_neg (by decide), if_neg (by decide), if_neg (by decide), if_neg (by decide), if_neg (by decide), if_neg (by decide), if_neg (by decide), if_pos (by decide), rd_nn hi (by omega), ob1_some, hA.2.1 (by omega), rd_nn hi (by omega), ob1_some, hA.2.2.2.1 (by omega), rd_nn hi (by omega), ob1_some, hA.2.2.2.2 (by omega), ob3_id]
      exact d1
  · have hlen : lenA (T' p) = 11 := by rw [e]; rfl
    obtain ⟨S1, r, k1, k2, k3, k4⟩ := A_moves (nn (num T' (p + 1) 4)) (nn (num T' (p + 5) 2)) (nn (num T' (p + 7) 4)) _ hS
    refine ⟨S1, r, k1, ?_, ?_, k4⟩
    · intro G c n hC
      have hC' := hC
      obtain ⟨bu, old, lv, pg, qg, sc, h1, h2, h3⟩ := hC'
      show ok (fX6_doAct G 0 (nn p)) _
      unfold fX6_doAct
      refine sa1 h1.1.r0_0 ?_
      refine sa1 (aR_at h1.1.g1 (by omega) (by omega)) ?_
      rw [show (tx, ts, old, tb).1 p = nn 109 by rw [← e]; exact htx]
      refine ifn (by decide) (ifn (by decide) (ifn (by decide) (ifn (by decide) (ifn (by decide) (ifn (by decide) (ifn (by decide) (ifn (by decide) (ifn (by decide) (ift (by decide) ?_)))))))))
      refine sa1 h1.1.io0 ?_
      rw [q1, q4, nn_add]
      refine sa1 (num6 h1.1 hS.1 (by omega) (hdg 1 4 (by omega) (by omega) (by omega))) ?_
      refine sa1 h1.1.io0 ?_
      rw [q5, q2, nn_add]
      refine sa1 (num6 h1.1 hS.1 (by omega) (hdg 5 2 (by omega) (by omega) (by omega))) ?_
      refine sa1 h1.1.io0 ?_
      rw [q7, nn_add]
      refine sa1 (num6 h1.1 hS.1 (by omega) (hdg 7 4 (by omega) (by omega) (by omega))) ?_
      refine sa1 h1.1.io0 ?_
      exact AF.to6 k2 hC
    · intro A M B n Sf i hR hA hi
      obtain ⟨M1, K, d1, d2, d3⟩ := k3 A M B n Sf hR
      refine ⟨M1, K, ?_, d2, d3⟩
      unfold fX7_does
      rw [rd_nn hi (by omega), ob1_some, hA.1, e, if_neg (by decide), if_neg (by decide), if_neg (by decide), if_neg (by decide), if_neg (by decide), if_neg (by decide), if_neg (by decide), if_neg (by decide), if_neg (by decide), if_pos (by decide), rd_nn hi (by omega), ob1_some, hA.2.1 (by omega), rd_nn hi (by omega), ob1_some, hA.2.2.2.1 (by omega), rd_nn hi (by omega), ob1_some, hA.2.2.2.2 (by omega), ob3_id]
      exact d1
