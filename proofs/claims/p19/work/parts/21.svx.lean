theorem qd_X3_requirePower : yX3_requirePower.cls = RX3 ∧ yX3_requirePower.cls ≠ "java/lang/invoke/MethodHandle" ∧ yX3_requirePower.cls ≠ "java/lang/invoke/VarHandle" ∧ (parseMethodDescriptor yX3_requirePower.desc).map (fun d => d.parameters.length) = some 0 := by decide +kernel
set_option maxHeartbeats 400000 in
set_option maxRecDepth 100000 in
/-- requirePower -/
theorem c_X3_requirePower (l : Launch) (hfl : l.stackTraces = false) (D : va_G) (cI : ClassId) (h0 : Nat) (pw : Nat) (ct : Nat) (ih0 : Nat) (rh0 : Nat) (w : zP) (sq : Bool) (le : Int32) (sz : Nat) : vx_Met l yX3_requirePower wsX3_requirePower ({ frames := 6, cells := 1, slots := 6, locals := 82 }) (z_Px D cI [.ref h0] [(h0, .inr (3, [.ref pw, .ref ct, .ref ih0, .ref rh0, .int (zb sq), .int le])), (pw, .inr (1, [.int (zb w.1), .int w.2.1, .int w.2.2]))] sz) (z_Xq D (v_pw w) none [(h0, .inr (3, [.ref pw, .ref ct, .ref ih0, .ref rh0, .int (zb sq), .int le])), (pw, .inr (1, [.int (zb w.1), .int w.2.1, .int w.2.2]))] (va_A [(h0, .inr (3, [.ref pw, .ref ct, .ref ih0, .ref rh0, .int (zb sq), .int le])), (pw, .inr (1, [.int (zb w.1), .int w.2.1, .int w.2.2]))] sz)) (z_Xx D (v_pw w) [(h0, .inr (3, [.ref pw, .ref ct, .ref ih0, .ref rh0, .int (zb sq), .int le])), (pw, .inr (1, [.int (zb w.1), .int w.2.1, .int w.2.2]))] (va_A [(h0, .inr (3, [.ref pw, .ref ct, .ref ih0, .ref rh0, .int (zb sq), .int le])), (pw, .inr (1, [.int (zb w.1), .int w.2.1, .int w.2.2]))] sz)) 1 6 (va_A [(h0, .inr (3, [.ref pw, .ref ct, .ref ih0, .ref rh0, .int (zb sq), .int le])), (pw, .inr (1, [.int (zb w.1), .int w.2.1, .int w.2.2]))] sz) := by
  refine vx_ofW (cc := cX3_requirePower) (maxL := 1) (ret := none) (by decide) rfl ?_
  intro p e s m args below meth c s₁ B hml hout hv
  obtain ⟨rfl, hsz, hP, hK, hD0, hTh⟩ := hv
  have hx := B.exec
  have hb := B.bytes
  have hr := B.returns
  have hts := atoms_spec (ws := wsX3_requirePower) B.pre
  have hown : s.vm.findClass RX3 = some m.cls := findClass_of_methodNamed B.named
  have hlocks := B.notSynchronized
  subst hsz
  have hD := hD0.self (sz := s.heap.size)
  generalize hAe : va_A [(h0, .inr (3, [.ref pw, .ref ct, .ref ih0, .ref rh0, .int (zb sq), .int le])), (pw, .inr (1, [.int (zb w.1), .int w.2.1, .int w.2.2]))] s.heap.size = A at hD hTh ⊢
  have hA : ∀ q : Nat, s.heap.size ≤ q → A q := fun q h => by rw [← hAe]; exact Or.inr h
  have hS : va_S A s.heap s.heap [] := va_S.rf
  have hP : va_P D vwCl [(h0, .inr (3, [.ref pw, .ref ct, .ref ih0, .ref rh0, .int (zb sq), .int le])), (pw, .inr (1, [.int (zb w.1), .int w.2.1, .int w.2.2]))] s.heap := hP
  have hl := lv_entry ([.ref h0]) (n := 1) (Nat.le_of_ble_eq_true rfl)
  rw [lg_entry_eq]
  generalize (lg_sl ([.ref h0]) ++ List.replicate (1 - (lg_sl ([.ref h0])).length) Slot.unset).toArray = ls at hl ⊢
  have hl : lv_has ls 1 [(0, .ref h0)] := hl
  refine z_start hP hS (fun H locs hP hS => ?_)
  have hin3 : ∀ w ∈ wsX30, w ∈ wsX3_requirePower := by decide +kernel
  have hf10 := hts (.fieldLink RX3 10 "SqueezedVolume" "power" "LSqueezedVolume$Power;") (by decide +kernel)
  refine lv_aload_n hx hb dX3_requirePower_0 rfl (lv_at hl 0 rfl) ?_
  refine va_get (D := D) (ci := 3) (v := .ref pw) (C := RX3) (T := TX3) (N := 6) hx hb hts hin3 hown hK hP 0 rfl rfl 0 (by decide) hf10 (fun _ h9 => h9) rfl dX3_requirePower_1 ?_
  refine z_callRi (va_runV (As := []) (rest := []) ⟨hx, hb, hml, hown, hts⟩ (c_X1_isUp l D cI pw w) (cwV 0 hts gX3_requirePower_X1_isUp rfl rfl rfl qd_X1_isUp ⟨Nat.le_of_ble_eq_true rfl, Nat.le_of_ble_eq_true rfl⟩) ⟨z_Pr_blind, va_recv hK hP (ci := 1) (q0 := 1) rfl rfl, fun U hU hW => ⟨rfl, by rw [hU]; exact hP.sub (ws' := [(pw, .inr (1, [.int (zb w.1), .int w.2.1, .int w.2.2]))]) [1] rfl, va_K.moved hW.alike hK⟩⟩ rfl rfl hl.1 rfl (lv_room (Nat.le_of_ble_eq_true rfl)) dX3_requirePower_4 ⟨Nat.le_of_ble_eq_true rfl, Nat.le_of_ble_eq_true rfl⟩) ?_
  refine lv_if_ne (tgt := 20) hx hb dX3_requirePower_7 (by decide) (fun c_1 => ?_) (fun c_1 => ?_)
  · skip
    have hE : v_pw w = 0 := by simp only [v_pw, if_neg (z_b1f c_1)] <;> rfl
    have hPz : va_P D vwCl [(h0, .inr (3, [.ref pw, .ref ct, .ref ih0, .ref rh0, .int (zb sq), .int le])), (pw, .inr (1, [.int (zb w.1), .int w.2.1, .int w.2.2]))] H := hP
    refine W.widen (k := 1) (n := 6) (Nat.le_of_ble_eq_true rfl) (Nat.le_of_ble_eq_true rfl) (vx_ret ?_)
    have hCd : (v_pw w) = 0 := by first | (rw [hE]; done) | (rw [hE]; rfl) | exact hE | exact congrArg (fun q : Nat × Int32 => q.1) hE
    exact W.vret hx hb hr (fun t ht hW => ⟨⟨hCd, rfl, by rw [ht]; exact hPz⟩, hS.F ht⟩) hS.2.2 dX3_requirePower_20
  · skip
    have hE : v_pw w = 1 := by simp only [v_pw, if_pos (z_b0 c_1)] <;> rfl
    have hPz : va_P D vwCl [(h0, .inr (3, [.ref pw, .ref ct, .ref ih0, .ref rh0, .int (zb sq), .int le])), (pw, .inr (1, [.int (zb w.1), .int w.2.1, .int w.2.2]))] H := hP
    have hCd : (v_pw w) = 1 := by first | (rw [hE]; done) | (rw [hE]; rfl) | exact hE | exact congrArg (fun q : Nat × Int32 => q.1) hE
    exact z_throw (cd := 1) (text := _) (cls := "java/lang/IllegalStateException") (Ts := wsX3_requirePower) hx hb hfl hown hts (by decide) rfl (by decide +kernel) (by decide +kernel) (by decide +kernel) z_st179 (by decide +kernel) xn_67 xg_67 hTh hS (by rw [hml]; exact hl.1) dX3_requirePower_10 dX3_requirePower_13 dX3_requirePower_14 dX3_requirePower_16 dX3_requirePower_19 hout (Nat.le_of_ble_eq_true rfl) (Nat.le_of_ble_eq_true rfl) (Nat.le_of_ble_eq_true rfl) (Nat.le_of_ble_eq_true rfl) hlocks hCd.symm hPz (Nat.le_of_ble_eq_true rfl) (Nat.le_of_ble_eq_true rfl)
theorem qd_X3_requireName : yX3_requireName.cls = RX3 ∧ yX3_requireName.cls ≠ "java/lang/invoke/MethodHandle" ∧ yX3_requireName.cls ≠ "java/lang/invoke/VarHandle" ∧ (parseMethodDescriptor yX3_requireName.desc).map (fun d => d.parameters.length) = some 1 := by decide +kernel
set_option maxHeartbeats 400000 in
set_option maxRecDepth 100000 in
/-- requireName -/
theorem c_X3_requireName (l : Launch) (hfl : l.stackTraces = false) (D : va_G) (cI : ClassId) (h0 : Nat) (pw : Nat) (ct : Nat) (ih0 : Nat) (rh0 : Nat) (sq : Bool) (le : Int32) (p0 : Int32) (sz : Nat) : vx_Met l yX3_requireName wsX3_requireName ({ frames := 6, cells := 1, slots := 6, locals := 82 }) (z_Px D cI [.ref h0, .int p0] [(h0, .inr (3, [.ref pw, .ref ct, .ref ih0, .ref rh0, .int (zb sq), .int le]))] sz) (z_Xq D (v_nm p0) none [(h0, .inr (3, [.ref pw, .ref ct, .ref ih0, .ref rh0, .int (zb sq), .int le]))] (va_A [(h0, .inr (3, [.ref pw, .ref ct, .ref ih0, .ref rh0, .int (zb sq), .int le]))] sz)) (z_Xx D (v_nm p0) [(h0, .inr (3, [.ref pw, .ref ct, .ref ih0, .ref rh0, .int (zb sq), .int le]))] (va_A [(h0, .inr (3, [.ref pw, .ref ct, .ref ih0, .ref rh0, .int (zb sq), .int le]))] sz)) 1 6 (va_A [(h0, .inr (3, [.ref pw, .ref ct, .ref ih0, .ref rh0, .int (zb sq), .int le]))] sz) := by
  refine vx_ofW (cc := cX3_requireName) (maxL := 2) (ret := none) (by decide) rfl ?_
  intro p e s m args below meth c s₁ B hml hout hv
  obtain ⟨rfl, hsz, hP, hK, hD0, hTh⟩ := hv
  have hx := B.exec
  have hb := B.bytes
  have hr := B.returns
  have hts := atoms_spec (ws := wsX3_requireName) B.pre
  have hown : s.vm.findClass RX3 = some m.cls := findClass_of_methodNamed B.named
  have hlocks := B.notSynchronized
  subst hsz
  have hD := hD0.self (sz := s.heap.size)
  generalize hAe : va_A [(h0, .inr (3, [.ref pw, .ref ct, .ref ih0, .ref rh0, .int (zb sq), .int le]))] s.heap.size = A at hD hTh ⊢
  have hA : ∀ q : Nat, s.heap.size ≤ q → A q := fun q h => by rw [← hAe]; exact Or.inr h
  have hS : va_S A s.heap s.heap [] := va_S.rf
  have hP : va_P D vwCl [(h0, .inr (3, [.ref pw, .ref ct, .ref ih0, .ref rh0, .int (zb sq), .int le]))] s.heap := hP
  have hl := lv_entry ([.ref h0, .int p0]) (n := 2) (Nat.le_of_ble_eq_true rfl)
  rw [lg_entry_eq]
  generalize (lg_sl ([.ref h0, .int p0]) ++ List.replicate (2 - (lg_sl ([.ref h0, .int p0])).length) Slot.unset).toArray = ls at hl ⊢
  have hl : lv_has ls 2 [(0, .ref h0), (1, .int p0)] := hl
  refine z_start hP hS (fun H locs hP hS => ?_)
  refine lv_iload_n hx hb dX3_requireName_0 rfl (lv_at hl 1 rfl) ?_
  refine lv_iconst (v := 1) hx hb dX3_requireName_1 (by decide) ?_
  refine lv_icmp_lt (tgt := 12) hx hb dX3_requireName_2 (by decide) (fun c_1 => ?_) (fun c_1 => ?_)
  · skip
    have hE : v_nm p0 = 2 := by simp only [v_nm, if_pos c_1] <;> rfl
    have hPz : va_P D vwCl [(h0, .inr (3, [.ref pw, .ref ct, .ref ih0, .ref rh0, .int (zb sq), .int le]))] H := hP
    have hCd : (v_nm p0) = 2 := by first | (rw [hE]; done) | (rw [hE]; rfl) | exact hE | exact congrArg (fun q : Nat × Int32 => q.1) hE
    exact z_throw (cd := 2) (text := _) (cls := "java/lang/IllegalArgumentException") (Ts := wsX3_requireName) hx hb hfl hown hts (by decide) rfl (by decide +kernel) (by decide +kernel) (by decide +kernel) z_st181 (by decide +kernel) xn_56 xg_56 hTh hS (by rw [hml]; exact hl.1) dX3_requireName_12 dX3_requireName_15 dX3_requireName_16 dX3_requireName_18 dX3_requireName_21 hout (Nat.le_of_ble_eq_true rfl) (Nat.le_of_ble_eq_true rfl) (Nat.le_of_ble_eq_true rfl) (Nat.le_of_ble_eq_true rfl) hlocks hCd.symm hPz (Nat.le_of_ble_eq_true rfl) (Nat.le_of_ble_eq_true rfl)
  · skip
    refine lv_iload_n hx hb dX3_requireName_5 rfl (lv_at hl 1 rfl) ?_
    refine lv_sipush (v := 999) hx hb dX3_requireName_6 (by decide) ?_
    refine lv_icmp_le (tgt := 22) hx hb dX3_requireName_9 (by decide) (fun c_2 => ?_) (fun c_2 => ?_)
    · skip
      have hE : v_nm p0 = 0 := by simp only [v_nm, if_neg c_1, if_pos c_2] <;> rfl
      have hPz : va_P D vwCl [(h0, .inr (3, [.ref pw, .ref ct, .ref ih0, .ref rh0, .int (zb sq), .int le]))] H := hP
      refine W.widen (k := 1) (n := 6) (Nat.le_of_ble_eq_true rfl) (Nat.le_of_ble_eq_true rfl) (vx_ret ?_)
      have hCd : (v_nm p0) = 0 := by first | (rw [hE]; done) | (rw [hE]; rfl) | exact hE | exact congrArg (fun q : Nat × Int32 => q.1) hE
      exact W.vret hx hb hr (fun t ht hW => ⟨⟨hCd, rfl, by rw [ht]; exact hPz⟩, hS.F ht⟩) hS.2.2 dX3_requireName_22
    · skip
      have hE : v_nm p0 = 2 := by simp only [v_nm, if_neg c_1, if_neg c_2] <;> rfl
      have hPz : va_P D vwCl [(h0, .inr (3, [.ref pw, .ref ct, .ref ih0, .ref rh0, .int (zb sq), .int le]))] H := hP
      have hCd : (v_nm p0) = 2 := by first | (rw [hE]; done) | (rw [hE]; rfl) | exact hE | exact congrArg (fun q : Nat × Int32 => q.1) hE
      exact z_throw (cd := 2) (text := _) (cls := "java/lang/IllegalArgumentException") (Ts := wsX3_requireName) hx hb hfl hown hts (by decide) rfl (by decide +kernel) (by decide +kernel) (by decide +kernel) z_st181 (by decide +kernel) xn_56 xg_56 hTh hS (by rw [hml]; exact hl.1) dX3_requireName_12 dX3_requireName_15 dX3_requireName_16 dX3_requireName_18 dX3_requireName_21 hout (Nat.le_of_ble_eq_true rfl) (Nat.le_of_ble_eq_true rfl) (Nat.le_of_ble_eq_true rfl) (Nat.le_of_ble_eq_true rfl) hlocks hCd.symm hPz (Nat.le_of_ble_eq_true rfl) (Nat.le_of_ble_eq_true rfl)
theorem qd_X3_requireTentative : yX3_requireTentative.cls = RX3 ∧ yX3_requireTentative.cls ≠ "java/lang/invoke/MethodHandle" ∧ yX3_requireTentative.cls ≠ "java/lang/invoke/VarHandle" ∧ (parseMethodDescriptor yX3_requireTentative.desc).map (fun d => d.parameters.length) = some 1 := by decide +kernel
set_option maxHeartbeats 400000 in
set_option maxRecDepth 100000 in
/-- requireTentative -/
theorem c_X3_requireTentative (l : Launch) (hfl : l.stackTraces = false) (D : va_G) (cI : ClassId) (h0 : Nat) (pw : Nat) (ct : Nat) (ih0 : Nat) (ia1 : Nat) (ia2 : Nat) (ia3 : Nat) (ia4 : Nat) (ib1 : Nat) (ib2 : Nat) (ib3 : Nat) (ib4 : Nat) (rh0 : Nat) (dd : zD) (sq : Bool) (le : Int32) (p0 : Int32) (sz : Nat) : vx_Met l yX3_requireTentative wsX3_requireTentative ({ frames := 6, cells := 1, slots := 6, locals := 82 }) (z_Px D cI [.ref h0, .int p0] [(h0, .inr (3, [.ref pw, .ref ct, .ref ih0, .ref rh0, .int (zb sq), .int le])), (ih0, .inr (0, [.ref ia1, .ref ia2, .ref ia3, .ref ia4, .int dd.2.2.2.2])), (ia1, .inr (2, [.ref ib1])), (ib1, .inl (cI, 17, .inl dd.1)), (ia2, .inr (2, [.ref ib2])), (ib2, .inl (cI, 17, .inl dd.2.1)), (ia3, .inr (2, [.ref ib3])), (ib3, .inl (cI, 17, .inl dd.2.2.1)), (ia4, .inr (2, [.ref ib4])), (ib4, .inl (cI, 17, .inl dd.2.2.2.1))] sz) (z_Xq D (v_rt dd p0) (some (.int (d_tent dd.1 dd.2.2.2.1 dd.2.2.2.2 p0))) [(h0, .inr (3, [.ref pw, .ref ct, .ref ih0, .ref rh0, .int (zb sq), .int le])), (ih0, .inr (0, [.ref ia1, .ref ia2, .ref ia3, .ref ia4, .int dd.2.2.2.2])), (ia1, .inr (2, [.ref ib1])), (ib1, .inl (cI, 17, .inl dd.1)), (ia2, .inr (2, [.ref ib2])), (ib2, .inl (cI, 17, .inl dd.2.1)), (ia3, .inr (2, [.ref ib3])), (ib3, .inl (cI, 17, .inl dd.2.2.1)), (ia4, .inr (2, [.ref ib4])), (ib4, .inl (cI, 17, .inl dd.2.2.2.1))] (va_A [(h0, .inr (3, [.ref pw, .ref ct, .ref ih0, .ref rh0, .int (zb sq), .int le])), (ih0, .inr (0, [.ref ia1, .ref ia2, .ref ia3, .ref ia4, .int dd.2.2.2.2])), (ia1, .inr (2, [.ref ib1])), (ib1, .inl (cI, 17, .inl dd.1)), (ia2, .inr (2, [.ref ib2])), (ib2, .inl (cI, 17, .inl dd.2.1)), (ia3, .inr (2, [.ref ib3])), (ib3, .inl (cI, 17, .inl dd.2.2.1)), (ia4, .inr (2, [.ref ib4])), (ib4, .inl (cI, 17, .inl dd.2.2.2.1))] sz)) (z_Xx D (v_rt dd p0) [(h0, .inr (3, [.ref pw, .ref ct, .ref ih0, .ref rh0, .int (zb sq), .int le])), (ih0, .inr (0, [.ref ia1, .ref ia2, .ref ia3, .ref ia4, .int dd.2.2.2.2])), (ia1, .inr (2, [.ref ib1])), (ib1, .inl (cI, 17, .inl dd.1)), (ia2, .inr (2, [.ref ib2])), (ib2, .inl (cI, 17, .inl dd.2.1)), (ia3, .inr (2, [.ref ib3])), (ib3, .inl (cI, 17, .inl dd.2.2.1)), (ia4, .inr (2, [.ref ib4])), (ib4, .inl (cI, 17, .inl dd.2.2.2.1))] (va_A [(h0, .inr (3, [.ref pw, .ref ct, .ref ih0, .ref rh0, .int (zb sq), .int le])), (ih0, .inr (0, [.ref ia1, .ref ia2, .ref ia3, .ref ia4, .int dd.2.2.2.2])), (ia1, .inr (2, [.ref ib1])), (ib1, .inl (cI, 17, .inl dd.1)), (ia2, .inr (2, [.ref ib2])), (ib2, .inl (cI, 17, .inl dd.2.1)), (ia3, .inr (2, [.ref ib3])), (ib3, .inl (cI, 17, .inl dd.2.2.1)), (ia4, .inr (2, [.ref ib4])), (ib4, .inl (cI, 17, .inl dd.2.2.2.1))] sz)) 1 6 (va_A [(h0, .inr (3, [.ref pw, .ref ct, .ref ih0, .ref rh0, .int (zb sq), .int le])), (ih0, .inr (0, [.ref ia1, .ref ia2, .ref ia3, .ref ia4, .int dd.2.2.2.2])), (ia1, .inr (2, [.ref ib1])), (ib1, .inl (cI, 17, .inl dd.1)), (ia2, .inr (2, [.ref ib2])), (ib2, .inl (cI, 17, .inl dd.2.1)), (ia3, .inr (2, [.ref ib3])), (ib3, .inl (cI, 17, .inl dd.2.2.1)), (ia4, .inr (2, [.ref ib4])), (ib4, .inl (cI, 17, .inl dd.2.2.2.1))] sz) := by
  refine vx_ofW (cc := cX3_requireTentative) (maxL := 3) (ret := (some .int)) (by decide) rfl ?_
  intro p e s m args below meth c s₁ B hml hout hv
  obtain ⟨rfl, hsz, hP, hK, hD0, hTh⟩ := hv
  have hx := B.exec
  have hb := B.bytes
  have hr := B.returns
  have hts := atoms_spec (ws := wsX3_requireTentative) B.pre
  have hown : s.vm.findClass RX3 = some m.cls := findClass_of_methodNamed B.named
  have hlocks := B.notSynchronized
  subst hsz
  have hD := hD0.self (sz := s.heap.size)
  generalize hAe : va_A [(h0, .inr (3, [.ref pw, .ref ct, .ref ih0, .ref rh0, .int (zb sq), .int le])), (ih0, .inr (0, [.ref ia1, .ref ia2, .ref ia3, .ref ia4, .int dd.2.2.2.2])), (ia1, .inr (2, [.ref ib1])), (ib1, .inl (cI, 17, .inl dd.1)), (ia2, .inr (2, [.ref ib2])), (ib2, .inl (cI, 17, .inl dd.2.1)), (ia3, .inr (2, [.ref ib3])), (ib3, .inl (cI, 17, .inl dd.2.2.1)), (ia4, .inr (2, [.ref ib4])), (ib4, .inl (cI, 17, .inl dd.2.2.2.1))] s.heap.size = A at hD hTh ⊢
  have hA : ∀ q : Nat, s.heap.size ≤ q → A q := fun q h => by rw [← hAe]; exact Or.inr h
  have hS : va_S A s.heap s.heap [] := va_S.rf
  have hP : va_P D vwCl [(h0, .inr (3, [.ref pw, .ref ct, .ref ih0, .ref rh0, .int (zb sq), .int le])), (ih0, .inr (0, [.ref ia1, .ref ia2, .ref ia3, .ref ia4, .int dd.2.2.2.2])), (ia1, .inr (2, [.ref ib1])), (ib1, .inl (cI, 17, .inl dd.1)), (ia2, .inr (2, [.ref ib2])), (ib2, .inl (cI, 17, .inl dd.2.1)), (ia3, .inr (2, [.ref ib3])), (ib3, .inl (cI, 17, .inl dd.2.2.1)), (ia4, .inr (2, [.ref ib4])), (ib4, .inl (cI, 17, .inl dd.2.2.2.1))] s.heap := hP
  have hl := lv_entry ([.ref h0, .int p0]) (n := 3) (Nat.le_of_ble_eq_true rfl)
  rw [lg_entry_eq]
  generalize (lg_sl ([.ref h0, .int p0]) ++ List.replicate (3 - (lg_sl ([.ref h0, .int p0])).length) Slot.unset).toArray = ls at hl ⊢
  have hl : lv_has ls 3 [(0, .ref h0), (1, .int p0)] := hl
  refine z_start hP hS (fun H locs hP hS => ?_)
  have hin3 : ∀ w ∈ wsX30, w ∈ wsX3_requireTentative := by decide +kernel
  have hf28 := hts (.fieldLink RX3 28 "SqueezedVolume" "directory" "LSqueezedVolume$Directory;") (by decide +kernel)
  refine lv_aload_n hx hb dX3_requireTentative_0 rfl (lv_at hl 0 rfl) ?_
  refine va_get (D := D) (ci := 3) (v := .ref ih0) (C := RX3) (T := TX3) (N := 6) hx hb hts hin3 hown hK hP 0 rfl rfl 2 (by decide) hf28 (fun _ h9 => h9) rfl dX3_requireTentative_1 ?_
  refine lv_iload_n hx hb dX3_requireTentative_4 rfl (lv_at hl 1 rfl) ?_
  refine z_callRi (va_runV (As := [.int p0]) (rest := []) ⟨hx, hb, hml, hown, hts⟩ (c_X0_findTentative l D cI ih0 ia1 ia2 ia3 ia4 ib1 ib4 dd.1 dd.2.2.2.1 dd.2.2.2.2 p0) (cwV 1 hts gX3_requireTentative_X0_findTentative rfl rfl rfl qd_X0_findTentative ⟨Nat.le_of_ble_eq_true rfl, Nat.le_of_ble_eq_true rfl⟩) ⟨z_Pr_blind, va_recv hK hP (ci := 0) (q0 := 1) rfl rfl, fun U hU hW => ⟨rfl, by rw [hU]; exact hP.sub (ws' := [(ih0, .inr (0, [.ref ia1, .ref ia2, .ref ia3, .ref ia4, .int dd.2.2.2.2])), (ia1, .inr (2, [.ref ib1])), (ib1, .inl (cI, 17, .inl dd.1)), (ia4, .inr (2, [.ref ib4])), (ib4, .inl (cI, 17, .inl dd.2.2.2.1))]) [1, 2, 3, 8, 9] rfl, va_K.moved hW.alike hK⟩⟩ rfl rfl hl.1 rfl (lv_room (Nat.le_of_ble_eq_true rfl)) dX3_requireTentative_5 ⟨Nat.le_of_ble_eq_true rfl, Nat.le_of_ble_eq_true rfl⟩) ?_
  refine lv_istore_n (lv' := [(2, .int (d_tent dd.1 dd.2.2.2.1 dd.2.2.2.2 p0)), (0, .ref h0), (1, .int p0)]) hx hb dX3_requireTentative_8 rfl hl (by decide) rfl (fun ls hl => ?_)
  refine lv_iload_n hx hb dX3_requireTentative_9 rfl (lv_at hl 0 rfl) ?_
  refine lv_iconst (v := -1) hx hb dX3_requireTentative_10 (by decide) ?_
  refine lv_icmp_ne (tgt := 24) hx hb dX3_requireTentative_11 (by decide) (fun c_1 => ?_) (fun c_1 => ?_)
  · skip
    refine lv_iload_n hx hb dX3_requireTentative_24 rfl (lv_at hl 0 rfl) ?_
    have hE : (v_rt dd p0, d_tent dd.1 dd.2.2.2.1 dd.2.2.2.2 p0) = (0, d_tent dd.1 dd.2.2.2.1 dd.2.2.2.2 p0) := by simp only [v_rt, if_neg c_1] <;> rfl
    have hPz : va_P D vwCl [(h0, .inr (3, [.ref pw, .ref ct, .ref ih0, .ref rh0, .int (zb sq), .int le])), (ih0, .inr (0, [.ref ia1, .ref ia2, .ref ia3, .ref ia4, .int dd.2.2.2.2])), (ia1, .inr (2, [.ref ib1])), (ib1, .inl (cI, 17, .inl dd.1)), (ia2, .inr (2, [.ref ib2])), (ib2, .inl (cI, 17, .inl dd.2.1)), (ia3, .inr (2, [.ref ib3])), (ib3, .inl (cI, 17, .inl dd.2.2.1)), (ia4, .inr (2, [.ref ib4])), (ib4, .inl (cI, 17, .inl dd.2.2.2.1))] H := hP
    refine W.widen (k := 1) (n := 6) (Nat.le_of_ble_eq_true rfl) (Nat.le_of_ble_eq_true rfl) (vx_ret ?_)
    have hCd : v_rt dd p0 = 0 := by first | (rw [hE]; done) | (rw [hE]; rfl) | exact hE | exact congrArg (fun q : Nat × Int32 => q.1) hE
    exact W.iret (v := d_tent dd.1 dd.2.2.2.1 dd.2.2.2.2 p0) hx hb hr (fun t ht hW => ⟨⟨hCd, rfl, by rw [ht]; exact hPz⟩, hS.F ht⟩) hS.2.2 dX3_requireTentative_25
  · skip
    have hE : (v_rt dd p0, d_tent dd.1 dd.2.2.2.1 dd.2.2.2.2 p0) = (4, d_tent dd.1 dd.2.2.2.1 dd.2.2.2.2 p0) := by simp only [v_rt, if_pos c_1] <;> rfl
    have hPz : va_P D vwCl [(h0, .inr (3, [.ref pw, .ref ct, .ref ih0, .ref rh0, .int (zb sq), .int le])), (ih0, .inr (0, [.ref ia1, .ref ia2, .ref ia3, .ref ia4, .int dd.2.2.2.2])), (ia1, .inr (2, [.ref ib1])), (ib1, .inl (cI, 17, .inl dd.1)), (ia2, .inr (2, [.ref ib2])), (ib2, .inl (cI, 17, .inl dd.2.1)), (ia3, .inr (2, [.ref ib3])), (ib3, .inl (cI, 17, .inl dd.2.2.1)), (ia4, .inr (2, [.ref ib4])), (ib4, .inl (cI, 17, .inl dd.2.2.2.1))] H := hP
    have hCd : v_rt dd p0 = 4 := by first | (rw [hE]; done) | (rw [hE]; rfl) | exact hE | exact congrArg (fun q : Nat × Int32 => q.1) hE
    exact z_throw (cd := 4) (text := _) (cls := "java/util/NoSuchElementException") (Ts := wsX3_requireTentative) hx hb hfl hown hts (by decide) rfl (by decide +kernel) (by decide +kernel) (by decide +kernel) z_st188 (by decide +kernel) xn_190 xg_190 hTh hS (by rw [hml]; exact hl.1) dX3_requireTentative_14 dX3_requireTentative_17 dX3_requireTentative_18 dX3_requireTentative_20 dX3_requireTentative_23 hout (Nat.le_of_ble_eq_true rfl) (Nat.le_of_ble_eq_true rfl) (Nat.le_of_ble_eq_true rfl) (Nat.le_of_ble_eq_true rfl) hlocks hCd.symm hPz (Nat.le_of_ble_eq_true rfl) (Nat.le_of_ble_eq_true rfl)
theorem qd_X3_requirePermanent : yX3_requirePermanent.cls = RX3 ∧ yX3_requirePermanent.cls ≠ "java/lang/invoke/MethodHandle" ∧ yX3_requirePermanent.cls ≠ "java/lang/invoke/VarHandle" ∧ (parseMethodDescriptor yX3_requirePermanent.desc).map (fun d => d.parameters.length) = some 1 := by decide +kernel
set_option maxHeartbeats 400000 in
set_option maxRecDepth 100000 in
/-- requirePermanent -/
theorem c_X3_requirePermanent (l : Launch) (hfl : l.stackTraces = false) (D : va_G) (cI : ClassId) (h0 : Nat) (pw : Nat) (ct : Nat) (ih0 : Nat) (ia1 : Nat) (ia2 : Nat) (ia3 : Nat) (ia4 : Nat) (ib1 : Nat) (ib2 : Nat) (ib3 : Nat) (ib4 : Nat) (rh0 : Nat) (dd : zD) (sq : Bool) (le : Int32) (p0 : Int32) (sz : Nat) : vx_Met l yX3_requirePermanent wsX3_requirePermanent ({ frames := 6, cells := 1, slots := 6, locals := 82 }) (z_Px D cI [.ref h0, .int p0] [(h0, .inr (3, [.ref pw, .ref ct, .ref ih0, .ref rh0, .int (zb sq), .int le])), (ih0, .inr (0, [.ref ia1, .ref ia2, .ref ia3, .ref ia4, .int dd.2.2.2.2])), (ia1, .inr (2, [.ref ib1])), (ib1, .inl (cI, 17, .inl dd.1)), (ia2, .inr (2, [.ref ib2])), (ib2, .inl (cI, 17, .inl dd.2.1)), (ia3, .inr (2, [.ref ib3])), (ib3, .inl (cI, 17, .inl dd.2.2.1)), (ia4, .inr (2, [.ref ib4])), (ib4, .inl (cI, 17, .inl dd.2.2.2.1))] sz) (z_Xq D (v_rp dd p0) (some (.int (d_perm dd.1 dd.2.2.1 dd.2.2.2.2 p0))) [(h0, .inr (3, [.ref pw, .ref ct, .ref ih0, .ref rh0, .int (zb sq), .int le])), (ih0, .inr (0, [.ref ia1, .ref ia2, .ref ia3, .ref ia4, .int dd.2.2.2.2])), (ia1, .inr (2, [.ref ib1])), (ib1, .inl (cI, 17, .inl dd.1)), (ia2, .inr (2, [.ref ib2])), (ib2, .inl (cI, 17, .inl dd.2.1)), (ia3, .inr (2, [.ref ib3])), (ib3, .inl (cI, 17, .inl dd.2.2.1)), (ia4, .inr (2, [.ref ib4])), (ib4, .inl (cI, 17, .inl dd.2.2.2.1))] (va_A [(h0, .inr (3, [.ref pw, .ref ct, .ref ih0, .ref rh0, .int (zb sq), .int le])), (ih0, .inr (0, [.ref ia1, .ref ia2, .ref ia3, .ref ia4, .int dd.2.2.2.2])), (ia1, .inr (2, [.ref ib1])), (ib1, .inl (cI, 17, .inl dd.1)), (ia2, .inr (2, [.ref ib2])), (ib2, .inl (cI, 17, .inl dd.2.1)), (ia3, .inr (2, [.ref ib3])), (ib3, .inl (cI, 17, .inl dd.2.2.1)), (ia4, .inr (2, [.ref ib4])), (ib4, .inl (cI, 17, .inl dd.2.2.2.1))] sz)) (z_Xx D (v_rp dd p0) [(h0, .inr (3, [.ref pw, .ref ct, .ref ih0, .ref rh0, .int (zb sq), .int le])), (ih0, .inr (0, [.ref ia1, .ref ia2, .ref ia3, .ref ia4, .int dd.2.2.2.2])), (ia1, .inr (2, [.ref ib1])), (ib1, .inl (cI, 17, .inl dd.1)), (ia2, .inr (2, [.ref ib2])), (ib2, .inl (cI, 17, .inl dd.2.1)), (ia3, .inr (2, [.ref ib3])), (ib3, .inl (cI, 17, .inl dd.2.2.1)), (ia4, .inr (2, [.ref ib4])), (ib4, .inl (cI, 17, .inl dd.2.2.2.1))] (va_A [(h0, .inr (3, [.ref pw, .ref ct, .ref ih0, .ref rh0, .int (zb sq), .int le])), (ih0, .inr (0, [.ref ia1, .ref ia2, .ref ia3, .ref ia4, .int dd.2.2.2.2])), (ia1, .inr (2, [.ref ib1])), (ib1, .inl (cI, 17, .inl dd.1)), (ia2, .inr (2, [.ref ib2])), (ib2, .inl (cI, 17, .inl dd.2.1)), (ia3, .inr (2, [.ref ib3])), (ib3, .inl (cI, 17, .inl dd.2.2.1)), (ia4, .inr (2, [.ref ib4])), (ib4, .inl (cI, 17, .inl dd.2.2.2.1))] sz)) 1 6 (va_A [(h0, .inr (3, [.ref pw, .ref ct, .ref ih0, .ref rh0, .int (zb sq), .int le])), (ih0, .inr (0, [.ref ia1, .ref ia2, .ref ia3, .ref ia4, .int dd.2.2.2.2])), (ia1, .inr (2, [.ref ib1])), (ib1, .inl (cI, 17, .inl dd.1)), (ia2, .inr (2, [.ref ib2])), (ib2, .inl (cI, 17, .inl dd.2.1)), (ia3, .inr (2, [.ref ib3])), (ib3, .inl (cI, 17, .inl dd.2.2.1)), (ia4, .inr (2, [.ref ib4])), (ib4, .inl (cI, 17, .inl dd.2.2.2.1))] sz) := by
  refine vx_ofW (cc := cX3_requirePermanent) (maxL := 3) (ret := (some .int)) (by decide) rfl ?_
  intro p e s m args below meth c s₁ B hml hout hv
  obtain ⟨rfl, hsz, hP, hK, hD0, hTh⟩ := hv
  have hx := B.exec
  have hb := B.bytes
  have hr := B.returns
  have hts := atoms_spec (ws := wsX3_requirePermanent) B.pre
  have hown : s.vm.findClass RX3 = some m.cls := findClass_of_methodNamed B.named
  have hlocks := B.notSynchronized
  subst hsz
  have hD := hD0.self (sz := s.heap.size)
  generalize hAe : va_A [(h0, .inr (3, [.ref pw, .ref ct, .ref ih0, .ref rh0, .int (zb sq), .int le])), (ih0, .inr (0, [.ref ia1, .ref ia2, .ref ia3, .ref ia4, .int dd.2.2.2.2])), (ia1, .inr (2, [.ref ib1])), (ib1, .inl (cI, 17, .inl dd.1)), (ia2, .inr (2, [.ref ib2])), (ib2, .inl (cI, 17, .inl dd.2.1)), (ia3, .inr (2, [.ref ib3])), (ib3, .inl (cI, 17, .inl dd.2.2.1)), (ia4, .inr (2, [.ref ib4])), (ib4, .inl (cI, 17, .inl dd.2.2.2.1))] s.heap.size = A at hD hTh ⊢
  have hA : ∀ q : Nat, s.heap.size ≤ q → A q := fun q h => by rw [← hAe]; exact Or.inr h
  have hS : va_S A s.heap s.heap [] := va_S.rf
  have hP : va_P D vwCl [(h0, .inr (3, [.ref pw, .ref ct, .ref ih0, .ref rh0, .int (zb sq), .int le])), (ih0, .inr (0, [.ref ia1, .ref ia2, .ref ia3, .ref ia4, .int dd.2.2.2.2])), (ia1, .inr (2, [.ref ib1])), (ib1, .inl (cI, 17, .inl dd.1)), (ia2, .inr (2, [.ref ib2])), (ib2, .inl (cI, 17, .inl dd.2.1)), (ia3, .inr (2, [.ref ib3])), (ib3, .inl (cI, 17, .inl dd.2.2.1)), (ia4, .inr (2, [.ref ib4])), (ib4, .inl (cI, 17, .inl dd.2.2.2.1))] s.heap := hP
  have hl := lv_entry ([.ref h0, .int p0]) (n := 3) (Nat.le_of_ble_eq_true rfl)
  rw [lg_entry_eq]
  generalize (lg_sl ([.ref h0, .int p0]) ++ List.replicate (3 - (lg_sl ([.ref h0, .int p0])).length) Slot.unset).toArray = ls at hl ⊢
  have hl : lv_has ls 3 [(0, .ref h0), (1, .int p0)] := hl
  refine z_start hP hS (fun H locs hP hS => ?_)
  have hin3 : ∀ w ∈ wsX30, w ∈ wsX3_requirePermanent := by decide +kernel
  have hf28 := hts (.fieldLink RX3 28 "SqueezedVolume" "directory" "LSqueezedVolume$Directory;") (by decide +kernel)
  refine lv_aload_n hx hb dX3_requirePermanent_0 rfl (lv_at hl 0 rfl) ?_
  refine va_get (D := D) (ci := 3) (v := .ref ih0) (C := RX3) (T := TX3) (N := 6) hx hb hts hin3 hown hK hP 0 rfl rfl 2 (by decide) hf28 (fun _ h9 => h9) rfl dX3_requirePermanent_1 ?_
  refine lv_iload_n hx hb dX3_requirePermanent_4 rfl (lv_at hl 1 rfl) ?_
  refine z_callRi (va_runV (As := [.int p0]) (rest := []) ⟨hx, hb, hml, hown, hts⟩ (c_X0_findPermanent l D cI ih0 ia1 ia2 ia3 ia4 ib1 ib3 dd.1 dd.2.2.1 dd.2.2.2.2 p0) (cwV 1 hts gX3_requirePermanent_X0_findPermanent rfl rfl rfl qd_X0_findPermanent ⟨Nat.le_of_ble_eq_true rfl, Nat.le_of_ble_eq_true rfl⟩) ⟨z_Pr_blind, va_recv hK hP (ci := 0) (q0 := 1) rfl rfl, fun U hU hW => ⟨rfl, by rw [hU]; exact hP.sub (ws' := [(ih0, .inr (0, [.ref ia1, .ref ia2, .ref ia3, .ref ia4, .int dd.2.2.2.2])), (ia1, .inr (2, [.ref ib1])), (ib1, .inl (cI, 17, .inl dd.1)), (ia3, .inr (2, [.ref ib3])), (ib3, .inl (cI, 17, .inl dd.2.2.1))]) [1, 2, 3, 6, 7] rfl, va_K.moved hW.alike hK⟩⟩ rfl rfl hl.1 rfl (lv_room (Nat.le_of_ble_eq_true rfl)) dX3_requirePermanent_5 ⟨Nat.le_of_ble_eq_true rfl, Nat.le_of_ble_eq_true rfl⟩) ?_
  refine lv_istore_n (lv' := [(2, .int (d_perm dd.1 dd.2.2.1 dd.2.2.2.2 p0)), (0, .ref h0), (1, .int p0)]) hx hb dX3_requirePermanent_8 rfl hl (by decide) rfl (fun ls hl => ?_)
  refine lv_iload_n hx hb dX3_requirePermanent_9 rfl (lv_at hl 0 rfl) ?_
  refine lv_iconst (v := -1) hx hb dX3_requirePermanent_10 (by decide) ?_
  refine lv_icmp_ne (tgt := 24) hx hb dX3_requirePermanent_11 (by decide) (fun c_1 => ?_) (fun c_1 => ?_)
  · skip
    refine lv_iload_n hx hb dX3_requirePermanent_24 rfl (lv_at hl 0 rfl) ?_
    have hE : (v_rp dd p0, d_perm dd.1 dd.2.2.1 dd.2.2.2.2 p0) = (0, d_perm dd.1 dd.2.2.1 dd.2.2.2.2 p0) := by simp only [v_rp, if_neg c_1] <;> rfl
    have hPz : va_P D vwCl [(h0, .inr (3, [.ref pw, .ref ct, .ref ih0, .ref rh0, .int (zb sq), .int le])), (ih0, .inr (0, [.ref ia1, .ref ia2, .ref ia3, .ref ia4, .int dd.2.2.2.2])), (ia1, .inr (2, [.ref ib1])), (ib1, .inl (cI, 17, .inl dd.1)), (ia2, .inr (2, [.ref ib2])), (ib2, .inl (cI, 17, .inl dd.2.1)), (ia3, .inr (2, [.ref ib3])), (ib3, .inl (cI, 17, .inl dd.2.2.1)), (ia4, .inr (2, [.ref ib4])), (ib4, .inl (cI, 17, .inl dd.2.2.2.1))] H := hP
    refine W.widen (k := 1) (n := 6) (Nat.le_of_ble_eq_true rfl) (Nat.le_of_ble_eq_true rfl) (vx_ret ?_)
    have hCd : v_rp dd p0 = 0 := by first | (rw [hE]; done) | (rw [hE]; rfl) | exact hE | exact congrArg (fun q : Nat × Int32 => q.1) hE
    exact W.iret (v := d_perm dd.1 dd.2.2.1 dd.2.2.2.2 p0) hx hb hr (fun t ht hW => ⟨⟨hCd, rfl, by rw [ht]; exact hPz⟩, hS.F ht⟩) hS.2.2 dX3_requirePermanent_25
  · skip
    have hE : (v_rp dd p0, d_perm dd.1 dd.2.2.1 dd.2.2.2.2 p0) = (4, d_perm dd.1 dd.2.2.1 dd.2.2.2.2 p0) := by simp only [v_rp, if_pos c_1] <;> rfl
    have hPz : va_P D vwCl [(h0, .inr (3, [.ref pw, .ref ct, .ref ih0, .ref rh0, .int (zb sq), .int le])), (ih0, .inr (0, [.ref ia1, .ref ia2, .ref ia3, .ref ia4, .int dd.2.2.2.2])), (ia1, .inr (2, [.ref ib1])), (ib1, .inl (cI, 17, .inl dd.1)), (ia2, .inr (2, [.ref ib2])), (ib2, .inl (cI, 17, .inl dd.2.1)), (ia3, .inr (2, [.ref ib3])), (ib3, .inl (cI, 17, .inl dd.2.2.1)), (ia4, .inr (2, [.ref ib4])), (ib4, .inl (cI, 17, .inl dd.2.2.2.1))] H := hP
    have hCd : v_rp dd p0 = 4 := by first | (rw [hE]; done) | (rw [hE]; rfl) | exact hE | exact congrArg (fun q : Nat × Int32 => q.1) hE
    exact z_throw (cd := 4) (text := _) (cls := "java/util/NoSuchElementException") (Ts := wsX3_requirePermanent) hx hb hfl hown hts (by decide) rfl (by decide +kernel) (by decide +kernel) (by decide +kernel) z_st191 (by decide +kernel) xn_190 xg_190 hTh hS (by rw [hml]; exact hl.1) dX3_requirePermanent_14 dX3_requirePermanent_17 dX3_requirePermanent_18 dX3_requirePermanent_20 dX3_requirePermanent_23 hout (Nat.le_of_ble_eq_true rfl) (Nat.le_of_ble_eq_true rfl) (Nat.le_of_ble_eq_true rfl) (Nat.le_of_ble_eq_true rfl) hlocks hCd.symm hPz (Nat.le_of_ble_eq_true rfl) (Nat.le_of_ble_eq_true rfl)
theorem qd_X3_requireBlock : yX3_requireBlock.cls = RX3 ∧ yX3_requireBlock.cls ≠ "java/lang/invoke/MethodHandle" ∧ yX3_requireBlock.cls ≠ "java/lang/invoke/VarHandle" ∧ (parseMethodDescriptor yX3_requireBlock.desc).map (fun d => d.parameters.length) = some 2 := by decide +kernel
set_option maxHeartbeats 400000 in
set_option maxRecDepth 100000 in
/-- requireBlock -/
theorem c_X3_requireBlock (l : Launch) (hfl : l.stackTraces = false) (D : va_G) (cI : ClassId) (h0 : Nat) (pw : Nat) (ct : Nat) (ih0 : Nat) (ia1 : Nat) (ia2 : Nat) (ia3 : Nat) (ia4 : Nat) (ib1 : Nat) (ib2 : Nat) (ib3 : Nat) (ib4 : Nat) (rh0 : Nat) (dd : zD) (sq : Bool) (le : Int32) (p0 : Int32) (p1 : Int32) (sz : Nat) : vx_Met l yX3_requireBlock wsX3_requireBlock ({ frames := 6, cells := 1, slots := 6, locals := 82 }) (z_Px D cI [.ref h0, .int p0, .int p1] [(h0, .inr (3, [.ref pw, .ref ct, .ref ih0, .ref rh0, .int (zb sq), .int le])), (ih0, .inr (0, [.ref ia1, .ref ia2, .ref ia3, .ref ia4, .int dd.2.2.2.2])), (ia1, .inr (2, [.ref ib1])), (ib1, .inl (cI, 17, .inl dd.1)), (ia2, .inr (2, [.ref ib2])), (ib2, .inl (cI, 17, .inl dd.2.1)), (ia3, .inr (2, [.ref ib3])), (ib3, .inl (cI, 17, .inl dd.2.2.1)), (ia4, .inr (2, [.ref ib4])), (ib4, .inl (cI, 17, .inl dd.2.2.2.1))] sz) (z_Xq D (v_rb dd p0 p1) none [(h0, .inr (3, [.ref pw, .ref ct, .ref ih0, .ref rh0, .int (zb sq), .int le])), (ih0, .inr (0, [.ref ia1, .ref ia2, .ref ia3, .ref ia4, .int dd.2.2.2.2])), (ia1, .inr (2, [.ref ib1])), (ib1, .inl (cI, 17, .inl dd.1)), (ia2, .inr (2, [.ref ib2])), (ib2, .inl (cI, 17, .inl dd.2.1)), (ia3, .inr (2, [.ref ib3])), (ib3, .inl (cI, 17, .inl dd.2.2.1)), (ia4, .inr (2, [.ref ib4])), (ib4, .inl (cI, 17, .inl dd.2.2.2.1))] (va_A [(h0, .inr (3, [.ref pw, .ref ct, .ref ih0, .ref rh0, .int (zb sq), .int le])), (ih0, .inr (0, [.ref ia1, .ref ia2, .ref ia3, .ref ia4, .int dd.2.2.2.2])), (ia1, .inr (2, [.ref ib1])), (ib1, .inl (cI, 17, .inl dd.1)), (ia2, .inr (2, [.ref ib2])), (ib2, .inl (cI, 17, .inl dd.2.1)), (ia3, .inr (2, [.ref ib3])), (ib3, .inl (cI, 17, .inl dd.2.2.1)), (ia4, .inr (2, [.ref ib4])), (ib4, .inl (cI, 17, .inl dd.2.2.2.1))] sz)) (z_Xx D (v_rb dd p0 p1) [(h0, .inr (3, [.ref pw, .ref ct, .ref ih0, .ref rh0, .int (zb sq), .int le])), (ih0, .inr (0, [.ref ia1, .ref ia2, .ref ia3, .ref ia4, .int dd.2.2.2.2])), (ia1, .inr (2, [.ref ib1])), (ib1, .inl (cI, 17, .inl dd.1)), (ia2, .inr (2, [.ref ib2])), (ib2, .inl (cI, 17, .inl dd.2.1)), (ia3, .inr (2, [.ref ib3])), (ib3, .inl (cI, 17, .inl dd.2.2.1)), (ia4, .inr (2, [.ref ib4])), (ib4, .inl (cI, 17, .inl dd.2.2.2.1))] (va_A [(h0, .inr (3, [.ref pw, .ref ct, .ref ih0, .ref rh0, .int (zb sq), .int le])), (ih0, .inr (0, [.ref ia1, .ref ia2, .ref ia3, .ref ia4, .int dd.2.2.2.2])), (ia1, .inr (2, [.ref ib1])), (ib1, .inl (cI, 17, .inl dd.1)), (ia2, .inr (2, [.ref ib2])), (ib2, .inl (cI, 17, .inl dd.2.1)), (ia3, .inr (2, [.ref ib3])), (ib3, .inl (cI, 17, .inl dd.2.2.1)), (ia4, .inr (2, [.ref ib4])), (ib4, .inl (cI, 17, .inl dd.2.2.2.1))] sz)) 1 6 (va_A [(h0, .inr (3, [.ref pw, .ref ct, .ref ih0, .ref rh0, .int (zb sq), .int le])), (ih0, .inr (0, [.ref ia1, .ref ia2, .ref ia3, .ref ia4, .int dd.2.2.2.2])), (ia1, .inr (2, [.ref ib1])), (ib1, .inl (cI, 17, .inl dd.1)), (ia2, .inr (2, [.ref ib2])), (ib2, .inl (cI, 17, .inl dd.2.1)), (ia3, .inr (2, [.ref ib3])), (ib3, .inl (cI, 17, .inl dd.2.2.1)), (ia4, .inr (2, [.ref ib4])), (ib4, .inl (cI, 17, .inl dd.2.2.2.1))] sz) := by
  refine vx_ofW (cc := cX3_requireBlock) (maxL := 3) (ret := none) (by decide) rfl ?_
  intro p e s m args below meth c s₁ B hml hout hv
  obtain ⟨rfl, hsz, hP, hK, hD0, hTh⟩ := hv
  have hx := B.exec
  have hb := B.bytes
  have hr := B.returns
  have hts := atoms_spec (ws := wsX3_requireBlock) B.pre
  have hown : s.vm.findClass RX3 = some m.cls := findClass_of_methodNamed B.named
  have hlocks := B.notSynchronized
  subst hsz
  have hD := hD0.self (sz := s.heap.size)
  generalize hAe : va_A [(h0, .inr (3, [.ref pw, .ref ct, .ref ih0, .ref rh0, .int (zb sq), .int le])), (ih0, .inr (0, [.ref ia1, .ref ia2, .ref ia3, .ref ia4, .int dd.2.2.2.2])), (ia1, .inr (2, [.ref ib1])), (ib1, .inl (cI, 17, .inl dd.1)), (ia2, .inr (2, [.ref ib2])), (ib2, .inl (cI, 17, .inl dd.2.1)), (ia3, .inr (2, [.ref ib3])), (ib3, .inl (cI, 17, .inl dd.2.2.1)), (ia4, .inr (2, [.ref ib4])), (ib4, .inl (cI, 17, .inl dd.2.2.2.1))] s.heap.size = A at hD hTh ⊢
  have hA : ∀ q : Nat, s.heap.size ≤ q → A q := fun q h => by rw [← hAe]; exact Or.inr h
  have hS : va_S A s.heap s.heap [] := va_S.rf
  have hP : va_P D vwCl [(h0, .inr (3, [.ref pw, .ref ct, .ref ih0, .ref rh0, .int (zb sq), .int le])), (ih0, .inr (0, [.ref ia1, .ref ia2, .ref ia3, .ref ia4, .int dd.2.2.2.2])), (ia1, .inr (2, [.ref ib1])), (ib1, .inl (cI, 17, .inl dd.1)), (ia2, .inr (2, [.ref ib2])), (ib2, .inl (cI, 17, .inl dd.2.1)), (ia3, .inr (2, [.ref ib3])), (ib3, .inl (cI, 17, .inl dd.2.2.1)), (ia4, .inr (2, [.ref ib4])), (ib4, .inl (cI, 17, .inl dd.2.2.2.1))] s.heap := hP
  have hl := lv_entry ([.ref h0, .int p0, .int p1]) (n := 3) (Nat.le_of_ble_eq_true rfl)
  rw [lg_entry_eq]
  generalize (lg_sl ([.ref h0, .int p0, .int p1]) ++ List.replicate (3 - (lg_sl ([.ref h0, .int p0, .int p1])).length) Slot.unset).toArray = ls at hl ⊢
  have hl : lv_has ls 3 [(0, .ref h0), (1, .int p0), (2, .int p1)] := hl
  refine z_start hP hS (fun H locs hP hS => ?_)
  have hin3 : ∀ w ∈ wsX30, w ∈ wsX3_requireBlock := by decide +kernel
  have hf28 := hts (.fieldLink RX3 28 "SqueezedVolume" "directory" "LSqueezedVolume$Directory;") (by decide +kernel)
  refine lv_iload_n hx hb dX3_requireBlock_0 rfl (lv_at hl 2 rfl) ?_
  refine lv_if_lt (tgt := 16) hx hb dX3_requireBlock_1 (by decide) (fun c_1 => ?_) (fun c_1 => ?_)
  · skip
    have hE : v_rb dd p0 p1 = 2 := by simp only [v_rb, if_pos c_1] <;> rfl
    have hPz : va_P D vwCl [(h0, .inr (3, [.ref pw, .ref ct, .ref ih0, .ref rh0, .int (zb sq), .int le])), (ih0, .inr (0, [.ref ia1, .ref ia2, .ref ia3, .ref ia4, .int dd.2.2.2.2])), (ia1, .inr (2, [.ref ib1])), (ib1, .inl (cI, 17, .inl dd.1)), (ia2, .inr (2, [.ref ib2])), (ib2, .inl (cI, 17, .inl dd.2.1)), (ia3, .inr (2, [.ref ib3])), (ib3, .inl (cI, 17, .inl dd.2.2.1)), (ia4, .inr (2, [.ref ib4])), (ib4, .inl (cI, 17, .inl dd.2.2.2.1))] H := hP
    have hCd : (v_rb dd p0 p1) = 2 := by first | (rw [hE]; done) | (rw [hE]; rfl) | exact hE | exact congrArg (fun q : Nat × Int32 => q.1) hE
    exact z_throw (cd := 2) (text := _) (cls := "java/lang/IllegalArgumentException") (Ts := wsX3_requireBlock) hx hb hfl hown hts (by decide) rfl (by decide +kernel) (by decide +kernel) (by decide +kernel) z_st193 (by decide +kernel) xn_56 xg_56 hTh hS (by rw [hml]; exact hl.1) dX3_requireBlock_16 dX3_requireBlock_19 dX3_requireBlock_20 dX3_requireBlock_22 dX3_requireBlock_25 hout (Nat.le_of_ble_eq_true rfl) (Nat.le_of_ble_eq_true rfl) (Nat.le_of_ble_eq_true rfl) (Nat.le_of_ble_eq_true rfl) hlocks hCd.symm hPz (Nat.le_of_ble_eq_true rfl) (Nat.le_of_ble_eq_true rfl)
  · skip
    refine lv_iload_n hx hb dX3_requireBlock_4 rfl (lv_at hl 2 rfl) ?_
    refine lv_aload_n hx hb dX3_requireBlock_5 rfl (lv_at hl 0 rfl) ?_
    refine va_get (D := D) (ci := 3) (v := .ref ih0) (C := RX3) (T := TX3) (N := 6) hx hb hts hin3 hown hK hP 0 rfl rfl 2 (by decide) hf28 (fun _ h9 => h9) rfl dX3_requireBlock_6 ?_
    refine lv_iload_n hx hb dX3_requireBlock_9 rfl (lv_at hl 1 rfl) ?_
    refine z_callRi (va_runV (As := [.int p0]) (rest := [.int p1]) ⟨hx, hb, hml, hown, hts⟩ (c_X0_lengthAt l D cI ih0 ia1 ia2 ia3 ia4 ib2 dd.2.1 dd.2.2.2.2 p0) (cwV 1 hts gX3_requireBlock_X0_lengthAt rfl rfl rfl qd_X0_lengthAt ⟨Nat.le_of_ble_eq_true rfl, Nat.le_of_ble_eq_true rfl⟩) ⟨z_Pr_blind, va_recv hK hP (ci := 0) (q0 := 1) rfl rfl, fun U hU hW => ⟨rfl, by rw [hU]; exact hP.sub (ws' := [(ih0, .inr (0, [.ref ia1, .ref ia2, .ref ia3, .ref ia4, .int dd.2.2.2.2])), (ia2, .inr (2, [.ref ib2])), (ib2, .inl (cI, 17, .inl dd.2.1))]) [1, 4, 5] rfl, va_K.moved hW.alike hK⟩⟩ rfl rfl hl.1 rfl (lv_room (Nat.le_of_ble_eq_true rfl)) dX3_requireBlock_10 ⟨Nat.le_of_ble_eq_true rfl, Nat.le_of_ble_eq_true rfl⟩) ?_
    refine lv_icmp_lt (tgt := 26) hx hb dX3_requireBlock_13 (by decide) (fun c_2 => ?_) (fun c_2 => ?_)
    · skip
      have hE : v_rb dd p0 p1 = 0 := by simp only [v_rb, if_neg c_1, if_pos c_2] <;> rfl
      have hPz : va_P D vwCl [(h0, .inr (3, [.ref pw, .ref ct, .ref ih0, .ref rh0, .int (zb sq), .int le])), (ih0, .inr (0, [.ref ia1, .ref ia2, .ref ia3, .ref ia4, .int dd.2.2.2.2])), (ia1, .inr (2, [.ref ib1])), (ib1, .inl (cI, 17, .inl dd.1)), (ia2, .inr (2, [.ref ib2])), (ib2, .inl (cI, 17, .inl dd.2.1)), (ia3, .inr (2, [.ref ib3])), (ib3, .inl (cI, 17, .inl dd.2.2.1)), (ia4, .inr (2, [.ref ib4])), (ib4, .inl (cI, 17, .inl dd.2.2.2.1))] H := hP
      refine W.widen (k := 1) (n := 6) (Nat.le_of_ble_eq_true rfl) (Nat.le_of_ble_eq_true rfl) (vx_ret ?_)
      have hCd : (v_rb dd p0 p1) = 0 := by first | (rw [hE]; done) | (rw [hE]; rfl) | exact hE | exact congrArg (fun q : Nat × Int32 => q.1) hE
      exact W.vret hx hb hr (fun t ht hW => ⟨⟨hCd, rfl, by rw [ht]; exact hPz⟩, hS.F ht⟩) hS.2.2 dX3_requireBlock_26
    · skip
      have hE : v_rb dd p0 p1 = 2 := by simp only [v_rb, if_neg c_1, if_neg c_2] <;> rfl
      have hPz : va_P D vwCl [(h0, .inr (3, [.ref pw, .ref ct, .ref ih0, .ref rh0, .int (zb sq), .int le])), (ih0, .inr (0, [.ref ia1, .ref ia2, .ref ia3, .ref ia4, .int dd.2.2.2.2])), (ia1, .inr (2, [.ref ib1])), (ib1, .inl (cI, 17, .inl dd.1)), (ia2, .inr (2, [.ref ib2])), (ib2, .inl (cI, 17, .inl dd.2.1)), (ia3, .inr (2, [.ref ib3])), (ib3, .inl (cI, 17, .inl dd.2.2.1)), (ia4, .inr (2, [.ref ib4])), (ib4, .inl (cI, 17, .inl dd.2.2.2.1))] H := hP
      have hCd : (v_rb dd p0 p1) = 2 := by first | (rw [hE]; done) | (rw [hE]; rfl) | exact hE | exact congrArg (fun q : Nat × Int32 => q.1) hE
      exact z_throw (cd := 2) (text := _) (cls := "java/lang/IllegalArgumentException") (Ts := wsX3_requireBlock) hx hb hfl hown hts (by decide) rfl (by decide +kernel) (by decide +kernel) (by decide +kernel) z_st193 (by decide +kernel) xn_56 xg_56 hTh hS (by rw [hml]; exact hl.1) dX3_requireBlock_16 dX3_requireBlock_19 dX3_requireBlock_20 dX3_requireBlock_22 dX3_requireBlock_25 hout (Nat.le_of_ble_eq_true rfl) (Nat.le_of_ble_eq_true rfl) (Nat.le_of_ble_eq_true rfl) (Nat.le_of_ble_eq_true rfl) hlocks hCd.symm hPz (Nat.le_of_ble_eq_true rfl) (Nat.le_of_ble_eq_true rfl)
theorem qd_X3_requireFewEntries : yX3_requireFewEntries.cls = RX3 ∧ yX3_requireFewEntries.cls ≠ "java/lang/invoke/MethodHandle" ∧ yX3_requireFewEntries.cls ≠ "java/lang/invoke/VarHandle" ∧ (parseMethodDescriptor yX3_requireFewEntries.desc).map (fun d => d.parameters.length) = some 0 := by decide +kernel
set_option maxHeartbeats 400000 in
set_option maxRecDepth 100000 in
/-- requireFewEntries -/
theorem c_X3_requireFewEntries (l : Launch) (hfl : l.stackTraces = false) (D : va_G) (cI : ClassId) (h0 : Nat) (pw : Nat) (ct : Nat) (ih0 : Nat) (rh0 : Nat) (ra1 : Nat) (ra2 : Nat) (ra3 : Nat) (ra4 : Nat) (rb1 : Nat) (rb2 : Nat) (rb3 : Nat) (rb4 : Nat) (ee : zD) (sq : Bool) (le : Int32) (sz : Nat) : vx_Met l yX3_requireFewEntries wsX3_requireFewEntries ({ frames := 6, cells := 1, slots := 6, locals := 82 }) (z_Px D cI [.ref h0] [(h0, .inr (3, [.ref pw, .ref ct, .ref ih0, .ref rh0, .int (zb sq), .int le])), (rh0, .inr (0, [.ref ra1, .ref ra2, .ref ra3, .ref ra4, .int ee.2.2.2.2])), (ra1, .inr (2, [.ref rb1])), (rb1, .inl (cI, 17, .inl ee.1)), (ra2, .inr (2, [.ref rb2])), (rb2, .inl (cI, 17, .inl ee.2.1)), (ra3, .inr (2, [.ref rb3])), (rb3, .inl (cI, 17, .inl ee.2.2.1)), (ra4, .inr (2, [.ref rb4])), (rb4, .inl (cI, 17, .inl ee.2.2.2.1))] sz) (z_Xq D (v_rf ee) none [(h0, .inr (3, [.ref pw, .ref ct, .ref ih0, .ref rh0, .int (zb sq), .int le])), (rh0, .inr (0, [.ref ra1, .ref ra2, .ref ra3, .ref ra4, .int ee.2.2.2.2])), (ra1, .inr (2, [.ref rb1])), (rb1, .inl (cI, 17, .inl ee.1)), (ra2, .inr (2, [.ref rb2])), (rb2, .inl (cI, 17, .inl ee.2.1)), (ra3, .inr (2, [.ref rb3])), (rb3, .inl (cI, 17, .inl ee.2.2.1)), (ra4, .inr (2, [.ref rb4])), (rb4, .inl (cI, 17, .inl ee.2.2.2.1))] (va_A [(h0, .inr (3, [.ref pw, .ref ct, .ref ih0, .ref rh0, .int (zb sq), .int le])), (rh0, .inr (0, [.ref ra1, .ref ra2, .ref ra3, .ref ra4, .int ee.2.2.2.2])), (ra1, .inr (2, [.ref rb1])), (rb1, .inl (cI, 17, .inl ee.1)), (ra2, .inr (2, [.ref rb2])), (rb2, .inl (cI, 17, .inl ee.2.1)), (ra3, .inr (2, [.ref rb3])), (rb3, .inl (cI, 17, .inl ee.2.2.1)), (ra4, .inr (2, [.ref rb4])), (rb4, .inl (cI, 17, .inl ee.2.2.2.1))] sz)) (z_Xx D (v_rf ee) [(h0, .inr (3, [.ref pw, .ref ct, .ref ih0, .ref rh0, .int (zb sq), .int le])), (rh0, .inr (0, [.ref ra1, .ref ra2, .ref ra3, .ref ra4, .int ee.2.2.2.2])), (ra1, .inr (2, [.ref rb1])), (rb1, .inl (cI, 17, .inl ee.1)), (ra2, .inr (2, [.ref rb2])), (rb2, .inl (cI, 17, .inl ee.2.1)), (ra3, .inr (2, [.ref rb3])), (rb3, .inl (cI, 17, .inl ee.2.2.1)), (ra4, .inr (2, [.ref rb4])), (rb4, .inl (cI, 17, .inl ee.2.2.2.1))] (va_A [(h0, .inr (3, [.ref pw, .ref ct, .ref ih0, .ref rh0, .int (zb sq), .int le])), (rh0, .inr (0, [.ref ra1, .ref ra2, .ref ra3, .ref ra4, .int ee.2.2.2.2])), (ra1, .inr (2, [.ref rb1])), (rb1, .inl (cI, 17, .inl ee.1)), (ra2, .inr (2, [.ref rb2])), (rb2, .inl (cI, 17, .inl ee.2.1)), (ra3, .inr (2, [.ref rb3])), (rb3, .inl (cI, 17, .inl ee.2.2.1)), (ra4, .inr (2, [.ref rb4])), (rb4, .inl (cI, 17, .inl ee.2.2.2.1))] sz)) 1 6 (va_A [(h0, .inr (3, [.ref pw, .ref ct, .ref ih0, .ref rh0, .int (zb sq), .int le])), (rh0, .inr (0, [.ref ra1, .ref ra2, .ref ra3, .ref ra4, .int ee.2.2.2.2])), (ra1, .inr (2, [.ref rb1])), (rb1, .inl (cI, 17, .inl ee.1)), (ra2, .inr (2, [.ref rb2])), (rb2, .inl (cI, 17, .inl ee.2.1)), (ra3, .inr (2, [.ref rb3])), (rb3, .inl (cI, 17, .inl ee.2.2.1)), (ra4, .inr (2, [.ref rb4])), (rb4, .inl (cI, 17, .inl ee.2.2.2.1))] sz) := by
  refine vx_ofW (cc := cX3_requireFewEntries) (maxL := 1) (ret := none) (by decide) rfl ?_
  intro p e s m args below meth c s₁ B hml hout hv
  obtain ⟨rfl, hsz, hP, hK, hD0, hTh⟩ := hv
  have hx := B.exec
  have hb := B.bytes
  have hr := B.returns
  have hts := atoms_spec (ws := wsX3_requireFewEntries) B.pre
  have hown : s.vm.findClass RX3 = some m.cls := findClass_of_methodNamed B.named
  have hlocks := B.notSynchronized
  subst hsz
  have hD := hD0.self (sz := s.heap.size)
  generalize hAe : va_A [(h0, .inr (3, [.ref pw, .ref ct, .ref ih0, .ref rh0, .int (zb sq), .int le])), (rh0, .inr (0, [.ref ra1, .ref ra2, .ref ra3, .ref ra4, .int ee.2.2.2.2])), (ra1, .inr (2, [.ref rb1])), (rb1, .inl (cI, 17, .inl ee.1)), (ra2, .inr (2, [.ref rb2])), (rb2, .inl (cI, 17, .inl ee.2.1)), (ra3, .inr (2, [.ref rb3])), (rb3, .inl (cI, 17, .inl ee.2.2.1)), (ra4, .inr (2, [.ref rb4])), (rb4, .inl (cI, 17, .inl ee.2.2.2.1))] s.heap.size = A at hD hTh ⊢
  have hA : ∀ q : Nat, s.heap.size ≤ q → A q := fun q h => by rw [← hAe]; exact Or.inr h
  have hS : va_S A s.heap s.heap [] := va_S.rf
  have hP : va_P D vwCl [(h0, .inr (3, [.ref pw, .ref ct, .ref ih0, .ref rh0, .int (zb sq), .int le])), (rh0, .inr (0, [.ref ra1, .ref ra2, .ref ra3, .ref ra4, .int ee.2.2.2.2])), (ra1, .inr (2, [.ref rb1])), (rb1, .inl (cI, 17, .inl ee.1)), (ra2, .inr (2, [.ref rb2])), (rb2, .inl (cI, 17, .inl ee.2.1)), (ra3, .inr (2, [.ref rb3])), (rb3, .inl (cI, 17, .inl ee.2.2.1)), (ra4, .inr (2, [.ref rb4])), (rb4, .inl (cI, 17, .inl ee.2.2.2.1))] s.heap := hP
  have hl := lv_entry ([.ref h0]) (n := 1) (Nat.le_of_ble_eq_true rfl)
  rw [lg_entry_eq]
  generalize (lg_sl ([.ref h0]) ++ List.replicate (1 - (lg_sl ([.ref h0])).length) Slot.unset).toArray = ls at hl ⊢
  have hl : lv_has ls 1 [(0, .ref h0)] := hl
  refine z_start hP hS (fun H locs hP hS => ?_)
  have hin3 : ∀ w ∈ wsX30, w ∈ wsX3_requireFewEntries := by decide +kernel
  have hf32 := hts (.fieldLink RX3 32 "SqueezedVolume" "draft" "LSqueezedVolume$Directory;") (by decide +kernel)
  refine lv_aload_n hx hb dX3_requireFewEntries_0 rfl (lv_at hl 0 rfl) ?_
  refine va_get (D := D) (ci := 3) (v := .ref rh0) (C := RX3) (T := TX3) (N := 6) hx hb hts hin3 hown hK hP 0 rfl rfl 3 (by decide) hf32 (fun _ h9 => h9) rfl dX3_requireFewEntries_1 ?_
  refine z_callRi (va_runV (As := []) (rest := []) ⟨hx, hb, hml, hown, hts⟩ (c_X0_count l D cI rh0 ra1 ra2 ra3 ra4 ee.2.2.2.2) (cwV 0 hts gX3_requireFewEntries_X0_count rfl rfl rfl qd_X0_count ⟨Nat.le_of_ble_eq_true rfl, Nat.le_of_ble_eq_true rfl⟩) ⟨z_Pr_blind, va_recv hK hP (ci := 0) (q0 := 1) rfl rfl, fun U hU hW => ⟨rfl, by rw [hU]; exact hP.sub (ws' := [(rh0, .inr (0, [.ref ra1, .ref ra2, .ref ra3, .ref ra4, .int ee.2.2.2.2]))]) [1] rfl, va_K.moved hW.alike hK⟩⟩ rfl rfl hl.1 rfl (lv_room (Nat.le_of_ble_eq_true rfl)) dX3_requireFewEntries_4 ⟨Nat.le_of_ble_eq_true rfl, Nat.le_of_ble_eq_true rfl⟩) ?_
  refine lv_bipush (v := 16) hx hb dX3_requireFewEntries_7 (by decide) ?_
  refine lv_icmp_le (tgt := 22) hx hb dX3_requireFewEntries_9 (by decide) (fun c_1 => ?_) (fun c_1 => ?_)
  · skip
    have hE : v_rf ee = 0 := by simp only [v_rf, if_pos c_1] <;> rfl
    have hPz : va_P D vwCl [(h0, .inr (3, [.ref pw, .ref ct, .ref ih0, .ref rh0, .int (zb sq), .int le])), (rh0, .inr (0, [.ref ra1, .ref ra2, .ref ra3, .ref ra4, .int ee.2.2.2.2])), (ra1, .inr (2, [.ref rb1])), (rb1, .inl (cI, 17, .inl ee.1)), (ra2, .inr (2, [.ref rb2])), (rb2, .inl (cI, 17, .inl ee.2.1)), (ra3, .inr (2, [.ref rb3])), (rb3, .inl (cI, 17, .inl ee.2.2.1)), (ra4, .inr (2, [.ref rb4])), (rb4, .inl (cI, 17, .inl ee.2.2.2.1))] H := hP
    refine W.widen (k := 1) (n := 6) (Nat.le_of_ble_eq_true rfl) (Nat.le_of_ble_eq_true rfl) (vx_ret ?_)
    have hCd : (v_rf ee) = 0 := by first | (rw [hE]; done) | (rw [hE]; rfl) | exact hE | exact congrArg (fun q : Nat × Int32 => q.1) hE
    exact W.vret hx hb hr (fun t ht hW => ⟨⟨hCd, rfl, by rw [ht]; exact hPz⟩, hS.F ht⟩) hS.2.2 dX3_requireFewEntries_22
  · skip
    have hE : v_rf ee = 3 := by simp only [v_rf, if_neg c_1] <;> rfl
    have hPz : va_P D vwCl [(h0, .inr (3, [.ref pw, .ref ct, .ref ih0, .ref rh0, .int (zb sq), .int le])), (rh0, .inr (0, [.ref ra1, .ref ra2, .ref ra3, .ref ra4, .int ee.2.2.2.2])), (ra1, .inr (2, [.ref rb1])), (rb1, .inl (cI, 17, .inl ee.1)), (ra2, .inr (2, [.ref rb2])), (rb2, .inl (cI, 17, .inl ee.2.1)), (ra3, .inr (2, [.ref rb3])), (rb3, .inl (cI, 17, .inl ee.2.2.1)), (ra4, .inr (2, [.ref rb4])), (rb4, .inl (cI, 17, .inl ee.2.2.2.1))] H := hP
    have hCd : (v_rf ee) = 3 := by first | (rw [hE]; done) | (rw [hE]; rfl) | exact hE | exact congrArg (fun q : Nat × Int32 => q.1) hE
    exact z_throw (cd := 3) (text := _) (cls := "java/lang/UnsupportedOperationException") (Ts := wsX3_requireFewEntries) hx hb hfl hown hts (by decide) rfl (by decide +kernel) (by decide +kernel) (by decide +kernel) z_st195 (by decide +kernel) xn_79 xg_79 hTh hS (by rw [hml]; exact hl.1) dX3_requireFewEntries_12 dX3_requireFewEntries_15 dX3_requireFewEntries_16 dX3_requireFewEntries_18 dX3_requireFewEntries_21 hout (Nat.le_of_ble_eq_true rfl) (Nat.le_of_ble_eq_true rfl) (Nat.le_of_ble_eq_true rfl) (Nat.le_of_ble_eq_true rfl) hlocks hCd.symm hPz (Nat.le_of_ble_eq_true rfl) (Nat.le_of_ble_eq_true rfl)
