theorem z_ofWH {l : Launch} {y : MethodName} {ws ws' : List Cond} {rm : Room} {Pc : Array Value → State → Prop} {Qc : Array Value → State → Outcome → State → Prop} {mc ms : Nat} {free : Addr → Prop} {cc : ByteArray} {maxL : Nat} {ret : Option FieldType} {hh : List (Nat × Nat × Nat × Nat)}
    (hy : plainName y.cls = true) (hw : ws = Cond.codeWith y cc maxL ret hh :: ws')
    (body : ∀ p e s m args below meth c s₁, BodyLoose p l y (headSpec ws rm) cc maxL ret e s m args below meth c s₁ → c.maxLocals = maxL → c.exceptionTable.toList = tableOf hh → Pc args s →
      W p l e (headSpec ws rm).room s m args below meth c s.heap [] 0 0 (MQ below Qc args s mc ms free) (entryFrame m args maxL)) : Met l y ws rm Pc Qc mc ms free := by
  refine MetFree.of_bodyS (code := cc) (maxLocals := maxL) (ret := ret) hy ?_ ?_
  · intro args s m h hn
    obtain ⟨m9, meth, c, hn9, h1, h2, h3, h4, -, h5, h6, -⟩ := Cond.codeWith_spec (atoms_spec (ws := ws) h _ (by rw [hw]; exact List.mem_cons_self))
    cases hn.symm.trans hn9
    exact ⟨meth, c, h1, h2, h3, h4, h5, h6⟩
  · intro p e s m args below meth c s₁ B hml hP _
    have hh0 : s₁.heap = s.heap := by rw [B.state]; rfl
    obtain ⟨t, a1, o, b1, b2, b3⟩ := body p e s m args below meth c s₁ B hml (vx_table (x := y) B (atoms_spec (ws := ws) B.pre _ (by rw [hw]; exact List.mem_cons_self))) hP s₁ hh0 (Stand.of_body B)
    exact ⟨t, o, a1, b1, b2, ⟨b3.1, b3.2⟩⟩
/-- no class of the four is another one of them -/
def z_Nc (s : State) : Prop := ∀ i j : Nat, 1 ≤ i → i ≤ 4 → 1 ≤ j → j ≤ 4 → i ≠ j → va_Nc (z_E i) (z_E j) s
def z_Pj (D : va_G) (cI : ClassId) (av : List Value) (ws : va_W) (sz : Nat) : Array Value → State → Prop := va_Pc av (fun U => (U.heap.size = sz ∧ va_P D vwCl ws U.heap ∧ va_K D vwCl [(cI, .int)] U ∧ va_D (fun _ => True) ws ∧ z_Th (va_A ws sz) U U.heap) ∧ z_Nc U)
theorem z_Pj_blind {D : va_G} {cI : ClassId} {av : List Value} {ws : va_W} {sz : Nat} : FrameBlind (z_Pj D cI av ws sz) := fun a U g mk q => by
  obtain ⟨q0, ⟨q1, qP, qK, qD, q2, q3, q4, q5⟩, q6⟩ := q
  exact ⟨q0, ⟨q1, qP, va_K.moved (u := U) (U := U.calling g mk a) (Vm.Alike.refl U.vm) qK, qD, vx_Zq.moved (u := U) (U := U.calling g mk a) (Vm.Alike.refl U.vm) q2, vx_Zq.moved (u := U) (U := U.calling g mk a) (Vm.Alike.refl U.vm) q3,
    z_Ng_moved (u := U) (U := U.calling g mk a) (Vm.Alike.refl U.vm) q4, fun x hx => by
      obtain ⟨a9, h9⟩ := q5 x hx
      exact ⟨a9, vk_R.same (u := U) (U := U.calling g mk a) rfl h9⟩⟩, fun i j h1 h2 h3 h4 h5 => va_Nc.moved (u := U) (U := U.calling g mk a) (Vm.Alike.refl U.vm) (q6 i j h1 h2 h3 h4 h5)⟩
theorem z_Ng_at {args : Array Value} {s : State} (h : ∀ w ∈ z_Ng, w.before #[] s = true) (i : Nat) (h1 : 1 ≤ i) (h2 : i ≤ 4) : (Cond.castable (z_E i) (z_E i)).before args s = true := by
  have h3 := z_Ng_moved (Vm.Alike.refl s.vm) (args := args) h
  match i, h1, h2 with
  | 1, _, _ => exact h3 _ (by simp [z_Ng])
  | 2, _, _ => exact h3 _ (by simp [z_Ng])
  | 3, _, _ => exact h3 _ (by simp [z_Ng])
  | 4, _, _ => exact h3 _ (by simp [z_Ng])
/-- what a helper of the law answers: the call's answer, or a number for what was thrown -/
def e_map (l : List (Nat × Int32)) (cd : Nat) (r : Int32) : Int32 := if cd = 0 then r else ((l.find? (fun q => q.1 == cd)).map Prod.snd).getD 0
theorem v_cd_enter {w : zP} {dd : zD} {ee : zD} {p0 : Int32} {p1 : Int32} : (v_enter w dd ee p0 p1).1 = 0 ∨ (v_enter w dd ee p0 p1).1 = 1 ∨ (v_enter w dd ee p0 p1).1 = 2 ∨ (v_enter w dd ee p0 p1).1 = 3 := by
  simp only [v_enter, v_pw, v_nm, v_rf, v_rt, v_rp, v_rb, v_ent2, v_ent3]
  repeat' split
  all_goals simp_all
theorem v_cd_put {w : zP} {ca : zA} {dd : zD} {p0 : Int32} {p1 : Int32} {p2 : Int32} : (v_put w ca dd p0 p1 p2).1 = 0 ∨ (v_put w ca dd p0 p1 p2).1 = 1 ∨ (v_put w ca dd p0 p1 p2).1 = 2 ∨ (v_put w ca dd p0 p1 p2).1 = 4 := by
  simp only [v_put, v_pw, v_nm, v_rf, v_rt, v_rp, v_rb]
  repeat' split
  all_goals simp_all
theorem v_cd_close {w : zP} {dd : zD} {ee : zD} {p0 : Int32} {p1 : Int32} : (v_close w dd ee p0 p1).1 = 0 ∨ (v_close w dd ee p0 p1).1 = 1 ∨ (v_close w dd ee p0 p1).1 = 2 ∨ (v_close w dd ee p0 p1).1 = 3 ∨ (v_close w dd ee p0 p1).1 = 4 := by
  simp only [v_close, v_pw, v_nm, v_rf, v_rt, v_rp, v_rb, v_ent3]
  repeat' split
  all_goals simp_all
theorem v_cd_purge {w : zP} {dd : zD} {ee : zD} {p0 : Int32} : (v_purge w dd ee p0).1 = 0 ∨ (v_purge w dd ee p0).1 = 1 ∨ (v_purge w dd ee p0).1 = 4 := by
  simp only [v_purge, v_pw, v_nm, v_rf, v_rt, v_rp, v_rb]
  repeat' split
  all_goals simp_all
theorem v_cd_delete {w : zP} {dd : zD} {ee : zD} {p0 : Int32} : (v_delete w dd ee p0).1 = 0 ∨ (v_delete w dd ee p0).1 = 1 ∨ (v_delete w dd ee p0).1 = 4 := by
  simp only [v_delete, v_pw, v_nm, v_rf, v_rt, v_rp, v_rb]
  repeat' split
  all_goals simp_all
theorem v_cd_rename {w : zP} {dd : zD} {ee : zD} {p0 : Int32} {p1 : Int32} : (v_rename w dd ee p0 p1).1 = 0 ∨ (v_rename w dd ee p0 p1).1 = 1 ∨ (v_rename w dd ee p0 p1).1 = 2 ∨ (v_rename w dd ee p0 p1).1 = 3 ∨ (v_rename w dd ee p0 p1).1 = 4 := by
  simp only [v_rename, v_pw, v_nm, v_rf, v_rt, v_rp, v_rb]
  repeat' split
  all_goals simp_all
theorem v_cd_read {w : zP} {ca : zA} {dd : zD} {p0 : Int32} {p1 : Int32} : (v_read w ca dd p0 p1).1 = 0 ∨ (v_read w ca dd p0 p1).1 = 1 ∨ (v_read w ca dd p0 p1).1 = 2 ∨ (v_read w ca dd p0 p1).1 = 4 := by
  simp only [v_read, v_pw, v_nm, v_rf, v_rt, v_rp, v_rb]
  repeat' split
  all_goals simp_all
theorem v_cd_squeeze {w : zP} {ca : zA} {dd : zD} {ee : zD} {sq : Bool} {le : Int32} : (v_squeeze (w, ca, dd, ee, sq, le)).1 = 0 ∨ (v_squeeze (w, ca, dd, ee, sq, le)).1 = 1 := by
  simp only [v_squeeze, v_pw, v_nm, v_rf, v_rt, v_rp, v_rb]
  repeat' split
  all_goals simp_all
theorem v_cd_mount {w : zP} {ca : zA} {dd : zD} {ee : zD} {sq : Bool} {le : Int32} : (v_mount (w, ca, dd, ee, sq, le)).1 = 0 ∨ (v_mount (w, ca, dd, ee, sq, le)).1 = 1 := by
  simp only [v_mount, v_pw, v_nm, v_rf, v_rt, v_rp, v_rb, v_mt2]
  repeat' split
  all_goals simp_all
theorem v_cd_cut {w : zP} {p0 : Int32} : (v_cut w p0).1 = 0 ∨ (v_cut w p0).1 = 1 ∨ (v_cut w p0).1 = 2 := by
  simp only [v_cut, v_pw, v_nm, v_rf, v_rt, v_rp, v_rb]
  repeat' split
  all_goals simp_all
theorem v_cd_entries {w : zP} {dd : zD} : (v_entries w dd).1 = 0 ∨ (v_entries w dd).1 = 1 := by
  simp only [v_entries, v_pw, v_nm, v_rf, v_rt, v_rp, v_rb]
  repeat' split
  all_goals simp_all
theorem v_cd_free {w : zP} {dd : zD} {p0 : Int32} : (v_free w dd p0).1 = 0 ∨ (v_free w dd p0).1 = 1 := by
  simp only [v_free, v_pw, v_nm, v_rf, v_rt, v_rp, v_rb]
  repeat' split
  all_goals simp_all
theorem v_cd_handle {w : zP} {dd : zD} {p0 : Int32} : (v_handle w dd p0).1 = 0 ∨ (v_handle w dd p0).1 = 1 := by
  simp only [v_handle, v_pw, v_nm, v_rf, v_rt, v_rp, v_rb]
  repeat' split
  all_goals simp_all
