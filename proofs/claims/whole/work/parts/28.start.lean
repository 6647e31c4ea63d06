/-! what a throw stands on, at the law's start -/
theorem vk_make {own tx : String} {k : Nat} {A : Array Value} {U : State} (h : (Cond.stringRef own k tx).before A U = true) : ∃ a, vk_R own k tx a U := by
  have h1 := h
  simp only [Cond.before, Cond.holds, Cond.value] at h1
  cases hc : U.vm.findClass own with
  | none => simp [hc] at h1
  | some cur =>
    cases hr : U.resolvedAt? own k with
    | none => simp [hc, hr] at h1
    | some q =>
      cases q with
      | string a =>
        refine ⟨a, vk_R.of (A := A) h ?_⟩
        simp only [State.resolvedAt?, hc, Option.bind_eq_bind, Option.bind_some] at hr
        simp only [Term.eval, hc, Option.bind_eq_bind, Option.bind_some]
        cases hk : U.vm.classes[cur]? with
        | none => simp [hk] at hr
        | some kk =>
          rw [hk] at hr
          simp only [Option.bind_some] at hr ⊢
          rw [hr]
          rfl
      | _ => simp [hc, hr] at h1
set_option maxRecDepth 20000 in
theorem zX3_start {s : State} {b : Nat} (hts : ∀ w ∈ lw_tbl, w.before #[Value.ref b] s = true) (hgv : (Jvm.Cond.and given_1 narrow_1).before #[Value.ref b] s = true) : zX3 s.heap.size s := by
  have hs := flat_of_before _ hgv
  have w1 : ∀ w ∈ zXw, w ∈ lw_tbl := by decide +kernel
  refine ⟨fun w hw => ?_, vx_Zqof (hts _ (by decide +kernel)) (hts _ (by decide +kernel)) (hs _ (by decide +kernel)) (fun a ha h => absurd ha (Nat.not_lt.mpr h)), vx_Zqof (hts _ (by decide +kernel)) (hts _ (by decide +kernel)) (hs _ (by decide +kernel)) (fun a ha h => absurd ha (Nat.not_lt.mpr h)), vk_make (hts _ (by decide +kernel)), vk_make (hts _ (by decide +kernel)), vk_make (hts _ (by decide +kernel))⟩
  have h1 := hts w (w1 w hw)
  simp only [zXw, List.mem_cons, List.not_mem_nil, or_false] at hw
  rcases hw with rfl | rfl | rfl | rfl <;> exact va_Nw.of rfl h1
