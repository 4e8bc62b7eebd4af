theorem z_arrK {args : Array Value} {s : State} {ty : FieldType} (hty : ty = .int ∨ ty = .long) (h : (Cond.arrayClass ty).before args s = true) : ∃ cA : ClassId, ArrOfT s cA ty ∧ va_RA s cA ty := by
  obtain ⟨c, k, comp, h1, h2, h3⟩ := Cond.arrayClass_spec h
  refine ⟨c, fun n z => ⟨fun k h => (by cases h), k, h2, comp, h3⟩, ?_⟩
  rcases hty with rfl | rfl <;> exact h1
theorem z_Ng_of {u : State} {args : Array Value} (h : ∀ w ∈ z_Ng, w.before args u = true) : ∀ w ∈ z_Ng, w.before #[] u = true := by
  have one : ∀ E : String, (Cond.castable E E).before args u = true → (Cond.castable E E).before #[] u = true := by
    intro E h
    simp only [Cond.before, Cond.holds, Cond.value] at h ⊢
    exact h
  have two : ∀ x : MethodName, (Cond.declares x).before args u = true → (Cond.declares x).before #[] u = true := by
    intro x h
    have e := Cond.onTables_vm (A := args) (A' := #[]) (U := u) (U' := u) u.vm (Cond.declares x) rfl
    have hU : u.setVm u.vm = u := rfl
    rw [hU] at e
    first | (rw [e] at h; exact h) | (rw [← e] at h; exact h) | (rw [e]; exact h) | (rw [← e]; exact h)
  intro w hw
  have h9 := h w hw
  simp only [z_Ng, List.mem_cons, List.not_mem_nil, or_false] at hw
  rcases hw with rfl | rfl | rfl | rfl | rfl | rfl | rfl | rfl
  all_goals first | exact one _ h9 | exact two _ h9
theorem z_strs {args : Array Value} {s : State} {cur : ClassId} (hcur : s.vm.findClass RX3 = some cur) (h : ∀ q ∈ z_Strs, (Cond.stringRef RX3 q.1 q.2).before args s = true) : z_Str s := fun q hq => by
  obtain ⟨k, cf, i, a, -, -, -, -, -, h6⟩ := Cond.stringRef_spec hcur (h q hq)
  exact ⟨a, vk_R.of (A := args) (h q hq) h6⟩
theorem z_st_in : ∀ q ∈ z_Strs, Cond.stringRef RX3 q.1 q.2 ∈ lw_tbl := by decide +kernel
theorem z_ng_in : ∀ w ∈ z_Ng, w ∈ lw_tbl := by decide +kernel
theorem z_R_new : t_R pw_new (fun _ => 0) (d_addE d_new 48) false (-1) q_new false 0 (fun _ => 0) (fun _ => 0) (fun _ => 0) (fun _ => 0) (fun _ => 0) 0 0 0 := by
  refine ⟨rfl, fun _ _ => rfl, [(0, 48)], ⟨⟨rfl, ?_, trivial, ?_, by decide⟩, ?_, ?_, ?_⟩, Or.inl ⟨rfl, rfl⟩⟩
  · intro p hp
    rw [List.mem_singleton.mp hp]
    decide
  · decide
  · intro t ht
    simp only [t_ex, if_pos ht]
    rfl
  · have h0 : t_dl d_new (t_k (fun _ => 0) (fun _ => 0) (fun _ => 0)) [] := ⟨rfl, Nat.zero_le _, fun j p h => by simp at h⟩
    exact t_dl_addE (n := 48) h0 (t_k_ok _ _ _) (by decide) (by decide)
  · refine ⟨fun f h1 h2 => ⟨⟨fun h => by simp [t_fs] at h, fun h => absurd rfl h⟩, Or.inl rfl⟩, fun f h1 h2 h3 => absurd h3 (show ¬ (0 : Int32) = 1 by decide), fun f g h1 h2 h3 h4 h5 => absurd h5 (show ¬ (0 : Int32) = 1 by decide), fun f g h1 h2 h3 h4 h5 => absurd h5 (show ¬ (0 : Int32) = 2 by decide)⟩
theorem z_newaL {p : Program} {l : Launch} {e : Env} {R : Room} {s : State} {m : MethodId} {args : Array Value} {below : List Frame} {meth : Method} {c : Code} {H : Heap} {locs : List Loc} {cells slots : Nat} {Q : State → Prop}
    {cc : ByteArray} {pc : Nat} {ls : Array Slot} {rest : List Value} {D : va_G} {A : Nat → Prop} {ws : va_W} {H0 : Heap} {cI cJ : ClassId} {n : Int32} {N : Nat} (hexec : p.tables.exec = Jvm.exec) (hb : c.code = cc) (harr : (Cond.arrayClass .long).before args s = true)
    (hK : va_K D vwCl [(cI, .int), (cJ, .long)] s) (hP : va_P D vwCl ws H) (hD : va_D A ws) (hS : va_S A H0 H locs) (hA : ∀ q, H0.size ≤ q → A q) (hn : ¬ n < 0) (hN : n.toNatClampNeg = N) (hbytes : N * 8 ≤ 536870912) (hcells : cells + 1 ≤ R.cells) (hslots : slots + N ≤ R.slots) (hdg : decode cc pc = .ok (.newarray .long, 2))
    (kk : ∀ (q : Nat) (H1 : Heap), va_P D vwCl (ws ++ [(q, .inl (cJ, N, .inr (.inl (fun _ => 0))))]) H1 → va_D A (ws ++ [(q, .inl (cJ, N, .inr (.inl (fun _ => 0))))]) → va_S A H0 H1 locs →
      W p l e R s m args below meth c H1 locs (cells + 1) (slots + N) Q (F0 m (pc + 2) ls (.ref q :: rest))) : W p l e R s m args below meth c H locs cells slots Q (F0 m pc ls (.int n :: rest)) := by
  refine va_newa (atype := .long) (ty := .long) (N' := N) (a0 := (N, .inr (.inl (fun _ => 0)))) hexec hb harr rfl hK hP hD hS hA (fun cA => rfl) hn hN hbytes hcells hslots hdg (fun q cA H1 hK1 hP1 hD1 hS1 => ?_)
  have h0 := (hK1.2 1 (cJ, .long) rfl).2
  have h1 := (hK1.2 2 (cA, .long) rfl).2
  have e9 : cA = cJ := Option.some.inj (h1.symm.trans h0)
  subst e9
  exact kk q H1 hP1 hD1 hS1
