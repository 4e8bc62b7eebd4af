theorem z_arrK {args : Array Value} {s : State} {ty : FieldType} (hty : ty = .int ∨ ty = .long) (h : (Cond.arrayClass ty).before args s = true) : ∃ cA : ClassId, ArrOfT s cA ty ∧ va_RA s cA ty := by
  obtain ⟨c, k, comp, h1, h2, h3⟩ := Cond.arrayClass_spec h
  refine ⟨c, fun n z => ⟨fun k h => (by cases h), k, h2, comp, h3⟩, ?_⟩
  rcases hty with rfl | rfl <;> exact h1
theorem z_Ng_of {u : State} {args : Array Value} (h : ∀ w ∈ z_Ng, w.before args u = true) : ∀ w ∈ z_Ng, w.before #[] u = true := by
  have one : ∀ E : String, (Cond.castable E E).before args u = true → (Cond.castable E E).before #[] u = true := by
    intro E h
    simp only [Cond.before, Cond.holds, Cond.value] at h ⊢
    exact h
  have two : ∀ x : MethodName, (Cond.declares x).before args u = true → (Cond.declares x).before #[] u = true := by
    intro x h
    have e := Cond.onTables_vm (A := args) (A' := #[]) (U := u) (U' := u) u.vm (Cond.declares x) rfl
    have hU : u.setVm u.vm = u := rfl
    rw [hU] at e
    first | (rw [e] at h; exact h) | (rw [← e] at h; exact h) | (rw [e]; exact h) | (rw [← e]; exact h)
  intro w hw
  have h9 := h w hw
  simp only [z_Ng, List.mem_cons, List.not_mem_nil, or_false] at hw
  rcases hw with rfl | rfl | rfl | rfl | rfl | rfl | rfl
  all_goals first | exact one _ h9 | exact two _ h9
theorem z_strs {args : Array Value} {s : State} {cur : ClassId} (hcur : s.vm.findClass RX3 = some cur) (h : ∀ q ∈ z_Strs, (Cond.stringRef RX3 q.1 q.2).before args s = true) : z_Str s := fun q hq => by
  obtain ⟨k, cf, i, a, -, -, -, -, -, h6⟩ := Cond.stringRef_spec hcur (h q hq)
  exact ⟨a, vk_R.of (A := args) (h q hq) h6⟩
theorem z_st_in : ∀ q ∈ z_Strs, Cond.stringRef RX3 q.1 q.2 ∈ lw_tbl := by decide +kernel
theorem z_ng_in : ∀ w ∈ z_Ng, w ∈ lw_tbl := by decide +kernel

