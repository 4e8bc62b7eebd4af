theorem v_writes_s {N j : Nat} {w1 : zP} {r : Bool × zP} (er : v_writes (N - j) w1 = r) (h : j + 1 ≤ N) (c : (pw_write w1).1 = true) : v_writes (N - (j + 1)) (pw_write w1).2 = r := by
  rw [← er, show N - j = (N - (j + 1)) + 1 by omega, v_writes, if_neg (by rw [c]; decide)]
theorem v_writes_f {N j : Nat} {w1 : zP} {r : Bool × zP} (er : v_writes (N - j) w1 = r) (h : j + 1 ≤ N) (c : (pw_write w1).1 = false) : r = (false, (pw_write w1).2) := by
  rw [← er, show N - j = (N - (j + 1)) + 1 by omega, v_writes, if_pos c]
theorem v_writes_e {N j : Nat} {w1 : zP} {r : Bool × zP} (er : v_writes (N - j) w1 = r) (h : N = j) : r = (true, w1) := by
  rw [← er, show N - j = 0 by omega, v_writes]
theorem qd_X3_change : yX3_change.cls = RX3 ∧ yX3_change.cls ≠ "java/lang/invoke/MethodHandle" ∧ yX3_change.cls ≠ "java/lang/invoke/VarHandle" ∧ (parseMethodDescriptor yX3_change.desc).map (fun d => d.parameters.length) = some 0 := by decide +kernel
set_option maxHeartbeats 400000 in
set_option maxRecDepth 100000 in
/-- change -/
theorem c_X3_change (l : Launch) (D : va_G) (cI : ClassId) (h0 : Nat) (pw : Nat) (ct : Nat) (ih0 : Nat) (ia1 : Nat) (ia2 : Nat) (ia3 : Nat) (ia4 : Nat) (ib1 : Nat) (ib2 : Nat) (ib3 : Nat) (ib4 : Nat) (rh0 : Nat) (ra1 : Nat) (ra2 : Nat) (ra3 : Nat) (ra4 : Nat) (rb1 : Nat) (rb2 : Nat) (rb3 : Nat) (rb4 : Nat) (w : zP) (dd : zD) (ee : zD) (sq : Bool) (le : Int32) (sz : Nat) : Met l yX3_change wsX3_change ({ frames := 3, cells := 0, slots := 0, locals := 64 }) (z_Pw D cI [.ref h0] [(h0, .inr (3, [.ref pw, .ref ct, .ref ih0, .ref rh0, .int (zb sq), .int le])), (pw, .inr (1, [.int (zb w.1), .int w.2.1, .int w.2.2])), (ih0, .inr (0, [.ref ia1, .ref ia2, .ref ia3, .ref ia4, .int dd.2.2.2.2])), (ia1, .inr (2, [.ref ib1])), (ib1, .inl (cI, 17, .inl dd.1)), (ia2, .inr (2, [.ref ib2])), (ib2, .inl (cI, 17, .inl dd.2.1)), (ia3, .inr (2, [.ref ib3])), (ib3, .inl (cI, 17, .inl dd.2.2.1)), (ia4, .inr (2, [.ref ib4])), (ib4, .inl (cI, 17, .inl dd.2.2.2.1)), (rh0, .inr (0, [.ref ra1, .ref ra2, .ref ra3, .ref ra4, .int ee.2.2.2.2])), (ra1, .inr (2, [.ref rb1])), (rb1, .inl (cI, 17, .inl ee.1)), (ra2, .inr (2, [.ref rb2])), (rb2, .inl (cI, 17, .inl ee.2.1)), (ra3, .inr (2, [.ref rb3])), (rb3, .inl (cI, 17, .inl ee.2.2.1)), (ra4, .inr (2, [.ref rb4])), (rb4, .inl (cI, 17, .inl ee.2.2.2.1))] sz) (z_Wo D (some (.int (zb ((v_change w dd ee).1)))) [(h0, .inr (3, [.ref pw, .ref ct, .ref ih0, .ref rh0, .int (zb sq), .int le])), (pw, .inr (1, [.int (zb ((v_change w dd ee).2.1).1), .int (((v_change w dd ee).2.1).2.1), .int (((v_change w dd ee).2.1).2.2)])), (ih0, .inr (0, [.ref ia1, .ref ia2, .ref ia3, .ref ia4, .int (((v_change w dd ee).2.2).2.2.2.2)])), (ia1, .inr (2, [.ref ib1])), (ib1, .inl (cI, 17, .inl (((v_change w dd ee).2.2).1))), (ia2, .inr (2, [.ref ib2])), (ib2, .inl (cI, 17, .inl (((v_change w dd ee).2.2).2.1))), (ia3, .inr (2, [.ref ib3])), (ib3, .inl (cI, 17, .inl (((v_change w dd ee).2.2).2.2.1))), (ia4, .inr (2, [.ref ib4])), (ib4, .inl (cI, 17, .inl (((v_change w dd ee).2.2).2.2.2.1))), (rh0, .inr (0, [.ref ra1, .ref ra2, .ref ra3, .ref ra4, .int ee.2.2.2.2])), (ra1, .inr (2, [.ref rb1])), (rb1, .inl (cI, 17, .inl ee.1)), (ra2, .inr (2, [.ref rb2])), (rb2, .inl (cI, 17, .inl ee.2.1)), (ra3, .inr (2, [.ref rb3])), (rb3, .inl (cI, 17, .inl ee.2.2.1)), (ra4, .inr (2, [.ref rb4])), (rb4, .inl (cI, 17, .inl ee.2.2.2.1))] (va_A [(h0, .inr (3, [.ref pw, .ref ct, .ref ih0, .ref rh0, .int (zb sq), .int le])), (pw, .inr (1, [.int (zb w.1), .int w.2.1, .int w.2.2])), (ih0, .inr (0, [.ref ia1, .ref ia2, .ref ia3, .ref ia4, .int dd.2.2.2.2])), (ia1, .inr (2, [.ref ib1])), (ib1, .inl (cI, 17, .inl dd.1)), (ia2, .inr (2, [.ref ib2])), (ib2, .inl (cI, 17, .inl dd.2.1)), (ia3, .inr (2, [.ref ib3])), (ib3, .inl (cI, 17, .inl dd.2.2.1)), (ia4, .inr (2, [.ref ib4])), (ib4, .inl (cI, 17, .inl dd.2.2.2.1)), (rh0, .inr (0, [.ref ra1, .ref ra2, .ref ra3, .ref ra4, .int ee.2.2.2.2])), (ra1, .inr (2, [.ref rb1])), (rb1, .inl (cI, 17, .inl ee.1)), (ra2, .inr (2, [.ref rb2])), (rb2, .inl (cI, 17, .inl ee.2.1)), (ra3, .inr (2, [.ref rb3])), (rb3, .inl (cI, 17, .inl ee.2.2.1)), (ra4, .inr (2, [.ref rb4])), (rb4, .inl (cI, 17, .inl ee.2.2.2.1))] sz)) 0 0 (va_A [(h0, .inr (3, [.ref pw, .ref ct, .ref ih0, .ref rh0, .int (zb sq), .int le])), (pw, .inr (1, [.int (zb w.1), .int w.2.1, .int w.2.2])), (ih0, .inr (0, [.ref ia1, .ref ia2, .ref ia3, .ref ia4, .int dd.2.2.2.2])), (ia1, .inr (2, [.ref ib1])), (ib1, .inl (cI, 17, .inl dd.1)), (ia2, .inr (2, [.ref ib2])), (ib2, .inl (cI, 17, .inl dd.2.1)), (ia3, .inr (2, [.ref ib3])), (ib3, .inl (cI, 17, .inl dd.2.2.1)), (ia4, .inr (2, [.ref ib4])), (ib4, .inl (cI, 17, .inl dd.2.2.2.1)), (rh0, .inr (0, [.ref ra1, .ref ra2, .ref ra3, .ref ra4, .int ee.2.2.2.2])), (ra1, .inr (2, [.ref rb1])), (rb1, .inl (cI, 17, .inl ee.1)), (ra2, .inr (2, [.ref rb2])), (rb2, .inl (cI, 17, .inl ee.2.1)), (ra3, .inr (2, [.ref rb3])), (rb3, .inl (cI, 17, .inl ee.2.2.1)), (ra4, .inr (2, [.ref rb4])), (rb4, .inl (cI, 17, .inl ee.2.2.2.1))] sz) := by
  refine Met.ofW (cc := cX3_change) (maxL := 3) (ret := (some .boolean)) (by decide) rfl ?_
  intro p e s m args below meth c s₁ B hml hv
  obtain ⟨rfl, hsz, hP, hK, hD0⟩ := hv
  have hx := B.exec
  have hb := B.bytes
  have hr := B.returns
  have hts := atoms_spec (ws := wsX3_change) B.pre
  have hown : s.vm.findClass RX3 = some m.cls := findClass_of_methodNamed B.named
  have hlocks := B.notSynchronized
  subst hsz
  have hD := hD0.self (sz := s.heap.size)
  generalize hAe : va_A [(h0, .inr (3, [.ref pw, .ref ct, .ref ih0, .ref rh0, .int (zb sq), .int le])), (pw, .inr (1, [.int (zb w.1), .int w.2.1, .int w.2.2])), (ih0, .inr (0, [.ref ia1, .ref ia2, .ref ia3, .ref ia4, .int dd.2.2.2.2])), (ia1, .inr (2, [.ref ib1])), (ib1, .inl (cI, 17, .inl dd.1)), (ia2, .inr (2, [.ref ib2])), (ib2, .inl (cI, 17, .inl dd.2.1)), (ia3, .inr (2, [.ref ib3])), (ib3, .inl (cI, 17, .inl dd.2.2.1)), (ia4, .inr (2, [.ref ib4])), (ib4, .inl (cI, 17, .inl dd.2.2.2.1)), (rh0, .inr (0, [.ref ra1, .ref ra2, .ref ra3, .ref ra4, .int ee.2.2.2.2])), (ra1, .inr (2, [.ref rb1])), (rb1, .inl (cI, 17, .inl ee.1)), (ra2, .inr (2, [.ref rb2])), (rb2, .inl (cI, 17, .inl ee.2.1)), (ra3, .inr (2, [.ref rb3])), (rb3, .inl (cI, 17, .inl ee.2.2.1)), (ra4, .inr (2, [.ref rb4])), (rb4, .inl (cI, 17, .inl ee.2.2.2.1))] s.heap.size = A at hD ⊢
  have hA : ∀ q : Nat, s.heap.size ≤ q → A q := fun q h => by rw [← hAe]; exact Or.inr h
  have hS : va_S A s.heap s.heap [] := va_S.rf
  have hP : va_P D vwCl [(h0, .inr (3, [.ref pw, .ref ct, .ref ih0, .ref rh0, .int (zb sq), .int le])), (pw, .inr (1, [.int (zb w.1), .int w.2.1, .int w.2.2])), (ih0, .inr (0, [.ref ia1, .ref ia2, .ref ia3, .ref ia4, .int dd.2.2.2.2])), (ia1, .inr (2, [.ref ib1])), (ib1, .inl (cI, 17, .inl dd.1)), (ia2, .inr (2, [.ref ib2])), (ib2, .inl (cI, 17, .inl dd.2.1)), (ia3, .inr (2, [.ref ib3])), (ib3, .inl (cI, 17, .inl dd.2.2.1)), (ia4, .inr (2, [.ref ib4])), (ib4, .inl (cI, 17, .inl dd.2.2.2.1)), (rh0, .inr (0, [.ref ra1, .ref ra2, .ref ra3, .ref ra4, .int ee.2.2.2.2])), (ra1, .inr (2, [.ref rb1])), (rb1, .inl (cI, 17, .inl ee.1)), (ra2, .inr (2, [.ref rb2])), (rb2, .inl (cI, 17, .inl ee.2.1)), (ra3, .inr (2, [.ref rb3])), (rb3, .inl (cI, 17, .inl ee.2.2.1)), (ra4, .inr (2, [.ref rb4])), (rb4, .inl (cI, 17, .inl ee.2.2.2.1))] s.heap := hP
  have hl := lv_entry ([.ref h0]) (n := 3) (Nat.le_of_ble_eq_true rfl)
  rw [lg_entry_eq]
  generalize (lg_sl ([.ref h0]) ++ List.replicate (3 - (lg_sl ([.ref h0])).length) Slot.unset).toArray = ls at hl ⊢
  have hl : lv_has ls 3 [(0, .ref h0)] := hl
  refine z_start hP hS (fun H locs hP hS => ?_)
  have hin3 : ∀ w ∈ wsX30, w ∈ wsX3_change := by decide +kernel
  have hf28 := hts (.fieldLink RX3 28 "SqueezedVolume" "directory" "LSqueezedVolume$Directory;") (by decide +kernel)
  have hf32 := hts (.fieldLink RX3 32 "SqueezedVolume" "draft" "LSqueezedVolume$Directory;") (by decide +kernel)
  have hf10 := hts (.fieldLink RX3 10 "SqueezedVolume" "power" "LSqueezedVolume$Power;") (by decide +kernel)
  have L16 : ∀ (k : Nat) (j : Nat) (x2 : Int32) (w1 : zP), (j ≤ (v_n ee).toNatClampNeg) → (((v_n ee).toNatClampNeg) + 1 ≤ j + k) → (x2 = nI j) → (v_writes ((v_n ee).toNatClampNeg - j) w1 = v_writes (v_n ee).toNatClampNeg w) → ∀ (H : Heap) (locs : List Loc) (ls : Array Slot), va_P D vwCl [(h0, .inr (3, [.ref pw, .ref ct, .ref ih0, .ref rh0, .int (zb sq), .int le])), (pw, .inr (1, [.int (zb w1.1), .int w1.2.1, .int w1.2.2])), (ih0, .inr (0, [.ref ia1, .ref ia2, .ref ia3, .ref ia4, .int dd.2.2.2.2])), (ia1, .inr (2, [.ref ib1])), (ib1, .inl (cI, 17, .inl dd.1)), (ia2, .inr (2, [.ref ib2])), (ib2, .inl (cI, 17, .inl dd.2.1)), (ia3, .inr (2, [.ref ib3])), (ib3, .inl (cI, 17, .inl dd.2.2.1)), (ia4, .inr (2, [.ref ib4])), (ib4, .inl (cI, 17, .inl dd.2.2.2.1)), (rh0, .inr (0, [.ref ra1, .ref ra2, .ref ra3, .ref ra4, .int ee.2.2.2.2])), (ra1, .inr (2, [.ref rb1])), (rb1, .inl (cI, 17, .inl ee.1)), (ra2, .inr (2, [.ref rb2])), (rb2, .inl (cI, 17, .inl ee.2.1)), (ra3, .inr (2, [.ref rb3])), (rb3, .inl (cI, 17, .inl ee.2.2.1)), (ra4, .inr (2, [.ref rb4])), (rb4, .inl (cI, 17, .inl ee.2.2.2.1))] H → va_D A [(h0, .inr (3, [.ref pw, .ref ct, .ref ih0, .ref rh0, .int (zb sq), .int le])), (pw, .inr (1, [.int (zb w1.1), .int w1.2.1, .int w1.2.2])), (ih0, .inr (0, [.ref ia1, .ref ia2, .ref ia3, .ref ia4, .int dd.2.2.2.2])), (ia1, .inr (2, [.ref ib1])), (ib1, .inl (cI, 17, .inl dd.1)), (ia2, .inr (2, [.ref ib2])), (ib2, .inl (cI, 17, .inl dd.2.1)), (ia3, .inr (2, [.ref ib3])), (ib3, .inl (cI, 17, .inl dd.2.2.1)), (ia4, .inr (2, [.ref ib4])), (ib4, .inl (cI, 17, .inl dd.2.2.2.1)), (rh0, .inr (0, [.ref ra1, .ref ra2, .ref ra3, .ref ra4, .int ee.2.2.2.2])), (ra1, .inr (2, [.ref rb1])), (rb1, .inl (cI, 17, .inl ee.1)), (ra2, .inr (2, [.ref rb2])), (rb2, .inl (cI, 17, .inl ee.2.1)), (ra3, .inr (2, [.ref rb3])), (rb3, .inl (cI, 17, .inl ee.2.2.1)), (ra4, .inr (2, [.ref rb4])), (rb4, .inl (cI, 17, .inl ee.2.2.2.1))] → va_S A s.heap H locs → lv_has ls 3 [(0, .ref h0), (1, .int (((ee.2.2.2.2 + 4) - 1) / 4)), (2, .int x2)] → W p l e ({ frames := 3, cells := 0, slots := 0, locals := 64 }) s m ([.ref h0] : List Value).toArray below meth c H locs 0 0 (MQ below (z_Wo D (some (.int (zb ((v_change w dd ee).1)))) [(h0, .inr (3, [.ref pw, .ref ct, .ref ih0, .ref rh0, .int (zb sq), .int le])), (pw, .inr (1, [.int (zb ((v_change w dd ee).2.1).1), .int (((v_change w dd ee).2.1).2.1), .int (((v_change w dd ee).2.1).2.2)])), (ih0, .inr (0, [.ref ia1, .ref ia2, .ref ia3, .ref ia4, .int (((v_change w dd ee).2.2).2.2.2.2)])), (ia1, .inr (2, [.ref ib1])), (ib1, .inl (cI, 17, .inl (((v_change w dd ee).2.2).1))), (ia2, .inr (2, [.ref ib2])), (ib2, .inl (cI, 17, .inl (((v_change w dd ee).2.2).2.1))), (ia3, .inr (2, [.ref ib3])), (ib3, .inl (cI, 17, .inl (((v_change w dd ee).2.2).2.2.1))), (ia4, .inr (2, [.ref ib4])), (ib4, .inl (cI, 17, .inl (((v_change w dd ee).2.2).2.2.2.1))), (rh0, .inr (0, [.ref ra1, .ref ra2, .ref ra3, .ref ra4, .int ee.2.2.2.2])), (ra1, .inr (2, [.ref rb1])), (rb1, .inl (cI, 17, .inl ee.1)), (ra2, .inr (2, [.ref rb2])), (rb2, .inl (cI, 17, .inl ee.2.1)), (ra3, .inr (2, [.ref rb3])), (rb3, .inl (cI, 17, .inl ee.2.2.1)), (ra4, .inr (2, [.ref rb4])), (rb4, .inl (cI, 17, .inl ee.2.2.2.1))] A) ([.ref h0] : List Value).toArray s 0 0 A) (F0 m 16 ls []) := by
    intro k
    induction k with
    | zero =>
      intro j x2 w1 hj hk ex2 er
      exfalso; omega
    | succ k ih =>
      intro j x2 w1 hj hk ex2 er
      intro H locs ls hP hD hS hl
      refine lv_iload_n hx hb dX3_change_16 rfl (lv_at hl 2 rfl) ?_
      refine lv_iload_n hx hb dX3_change_17 rfl (lv_at hl 1 rfl) ?_
      refine lv_iconst (v := 1) hx hb dX3_change_18 (by decide) ?_
      refine lv_iadd hx hb dX3_change_19 ?_
      refine lv_icmp_ge (tgt := 41) hx hb dX3_change_20 (by decide) (fun c_1 => ?_) (fun c_1 => ?_)
      · skip
        refine lv_aload_n hx hb dX3_change_41 rfl (lv_at hl 0 rfl) ?_
        refine va_get (D := D) (ci := 3) (v := .ref ih0) (C := RX3) (T := TX3) (N := 6) hx hb hts hin3 hown hK hP 0 rfl rfl 2 (by decide) hf28 (fun _ h9 => h9) rfl dX3_change_42 ?_
        refine lv_aload_n hx hb dX3_change_45 rfl (lv_at hl 0 rfl) ?_
        refine va_get (D := D) (ci := 3) (v := .ref rh0) (C := RX3) (T := TX3) (N := 6) hx hb hts hin3 hown hK hP 0 rfl rfl 3 (by decide) hf32 (fun _ h9 => h9) rfl dX3_change_46 ?_
        have hPc : va_P D vwCl [(ih0, .inr (0, [.ref ia1, .ref ia2, .ref ia3, .ref ia4, .int dd.2.2.2.2])), (ia1, .inr (2, [.ref ib1])), (ib1, .inl (cI, 17, .inl dd.1)), (ia2, .inr (2, [.ref ib2])), (ib2, .inl (cI, 17, .inl dd.2.1)), (ia3, .inr (2, [.ref ib3])), (ib3, .inl (cI, 17, .inl dd.2.2.1)), (ia4, .inr (2, [.ref ib4])), (ib4, .inl (cI, 17, .inl dd.2.2.2.1)), (rh0, .inr (0, [.ref ra1, .ref ra2, .ref ra3, .ref ra4, .int ee.2.2.2.2])), (ra1, .inr (2, [.ref rb1])), (rb1, .inl (cI, 17, .inl ee.1)), (ra2, .inr (2, [.ref rb2])), (rb2, .inl (cI, 17, .inl ee.2.1)), (ra3, .inr (2, [.ref rb3])), (rb3, .inl (cI, 17, .inl ee.2.2.1)), (ra4, .inr (2, [.ref rb4])), (rb4, .inl (cI, 17, .inl ee.2.2.2.1))] H := hP.sub [2, 3, 4, 5, 6, 7, 8, 9, 10, 11, 12, 13, 14, 15, 16, 17, 18, 19] rfl
        have hDc : va_D A [(ih0, .inr (0, [.ref ia1, .ref ia2, .ref ia3, .ref ia4, .int dd.2.2.2.2])), (ia1, .inr (2, [.ref ib1])), (ib1, .inl (cI, 17, .inl dd.1)), (ia2, .inr (2, [.ref ib2])), (ib2, .inl (cI, 17, .inl dd.2.1)), (ia3, .inr (2, [.ref ib3])), (ib3, .inl (cI, 17, .inl dd.2.2.1)), (ia4, .inr (2, [.ref ib4])), (ib4, .inl (cI, 17, .inl dd.2.2.2.1)), (rh0, .inr (0, [.ref ra1, .ref ra2, .ref ra3, .ref ra4, .int ee.2.2.2.2])), (ra1, .inr (2, [.ref rb1])), (rb1, .inl (cI, 17, .inl ee.1)), (ra2, .inr (2, [.ref rb2])), (rb2, .inl (cI, 17, .inl ee.2.1)), (ra3, .inr (2, [.ref rb3])), (rb3, .inl (cI, 17, .inl ee.2.2.1)), (ra4, .inr (2, [.ref rb4])), (rb4, .inl (cI, 17, .inl ee.2.2.2.1))] := hD.sub [2, 3, 4, 5, 6, 7, 8, 9, 10, 11, 12, 13, 14, 15, 16, 17, 18, 19] (by decide) rfl
        refine z_callWv (ws' := [(h0, .inr (3, [.ref pw, .ref ct, .ref ih0, .ref rh0, .int (zb sq), .int le])), (pw, .inr (1, [.int (zb w1.1), .int w1.2.1, .int w1.2.2])), (ih0, .inr (0, [.ref ia1, .ref ia2, .ref ia3, .ref ia4, .int ((d_take dd ee).2.2.2.2)])), (ia1, .inr (2, [.ref ib1])), (ib1, .inl (cI, 17, .inl ((d_take dd ee).1))), (ia2, .inr (2, [.ref ib2])), (ib2, .inl (cI, 17, .inl ((d_take dd ee).2.1))), (ia3, .inr (2, [.ref ib3])), (ib3, .inl (cI, 17, .inl ((d_take dd ee).2.2.1))), (ia4, .inr (2, [.ref ib4])), (ib4, .inl (cI, 17, .inl ((d_take dd ee).2.2.2.1))), (rh0, .inr (0, [.ref ra1, .ref ra2, .ref ra3, .ref ra4, .int ee.2.2.2.2])), (ra1, .inr (2, [.ref rb1])), (rb1, .inl (cI, 17, .inl ee.1)), (ra2, .inr (2, [.ref rb2])), (rb2, .inl (cI, 17, .inl ee.2.1)), (ra3, .inr (2, [.ref rb3])), (rb3, .inl (cI, 17, .inl ee.2.2.1)), (ra4, .inr (2, [.ref rb4])), (rb4, .inl (cI, 17, .inl ee.2.2.2.1))]) [2, 3, 4, 5, 6, 7, 8, 9, 10, 11, 12, 13, 14, 15, 16, 17, 18, 19] [0, 1] [(h0, .inr (3, [.ref pw, .ref ct, .ref ih0, .ref rh0, .int (zb sq), .int le])), (pw, .inr (1, [.int (zb w1.1), .int w1.2.1, .int w1.2.2]))] [h0, pw, ih0, ia1, ib1, ia2, ib2, ia3, ib3, ia4, ib4, rh0, ra1, rb1, ra2, rb2, ra3, rb3, ra4, rb4] (va_runV (As := [.ref rh0]) (rest := []) ⟨hx, hb, hml, hown, hts⟩ (c_X0_takeOver l D cI ih0 ia1 ia2 ia3 ia4 ib1 ib2 ib3 ib4 dd rh0 ra1 ra2 ra3 ra4 rb1 rb2 rb3 rb4 ee H.size) (cwV 1 hts gX3_change_X0_takeOver rfl rfl rfl qd_X0_takeOver ⟨Nat.le_of_ble_eq_true rfl, Nat.le_of_ble_eq_true rfl⟩) ⟨z_Pw_blind, va_recv hK hP (ci := 0) (q0 := 2) rfl rfl, fun U hU hW => ⟨rfl, by rw [hU], by rw [hU]; exact hPc, va_K.moved hW.alike hK, hDc.weaken (fun _ _ _ _ => trivial)⟩⟩ rfl rfl hl.1 rfl (lv_room (Nat.le_of_ble_eq_true rfl)) dX3_change_49 ⟨Nat.le_of_ble_eq_true rfl, Nat.le_of_ble_eq_true rfl⟩) hP hD hS hA ⟨rfl, rfl, rfl, rfl, rfl, rfl, rfl⟩ (fun H locs hP hD hS => ?_)
        generalize hs_2 : d_take dd ee = s_2 at hP hD ⊢
        refine lv_iconst (v := 1) hx hb dX3_change_52 (by decide) ?_
        have hE : v_change w dd ee = (true, w1, s_2) := by subst hs_2; rw [v_change, if_neg (by rw [v_writes_e er (z_c_eq hj ex2 c_1)]; simp), v_writes_e er (z_c_eq hj ex2 c_1)]
        have hPz : va_P D vwCl [(h0, .inr (3, [.ref pw, .ref ct, .ref ih0, .ref rh0, .int (zb sq), .int le])), (pw, .inr (1, [.int (zb ((v_change w dd ee).2.1).1), .int (((v_change w dd ee).2.1).2.1), .int (((v_change w dd ee).2.1).2.2)])), (ih0, .inr (0, [.ref ia1, .ref ia2, .ref ia3, .ref ia4, .int (((v_change w dd ee).2.2).2.2.2.2)])), (ia1, .inr (2, [.ref ib1])), (ib1, .inl (cI, 17, .inl (((v_change w dd ee).2.2).1))), (ia2, .inr (2, [.ref ib2])), (ib2, .inl (cI, 17, .inl (((v_change w dd ee).2.2).2.1))), (ia3, .inr (2, [.ref ib3])), (ib3, .inl (cI, 17, .inl (((v_change w dd ee).2.2).2.2.1))), (ia4, .inr (2, [.ref ib4])), (ib4, .inl (cI, 17, .inl (((v_change w dd ee).2.2).2.2.2.1))), (rh0, .inr (0, [.ref ra1, .ref ra2, .ref ra3, .ref ra4, .int ee.2.2.2.2])), (ra1, .inr (2, [.ref rb1])), (rb1, .inl (cI, 17, .inl ee.1)), (ra2, .inr (2, [.ref rb2])), (rb2, .inl (cI, 17, .inl ee.2.1)), (ra3, .inr (2, [.ref rb3])), (rb3, .inl (cI, 17, .inl ee.2.2.1)), (ra4, .inr (2, [.ref rb4])), (rb4, .inl (cI, 17, .inl ee.2.2.2.1))] H := by rw [hE]; exact hP
        have hRr : 1 = zb ((v_change w dd ee).1) := by first | (rw [hE]; done) | (rw [hE]; rfl)
        exact W.zret (v := 1) (ty := .boolean) hx hb hr rfl (fun t ht hW => ⟨⟨z_ret hRr, by rw [ht]; exact hPz⟩, hS.F ht⟩) hS.2.2 dX3_change_53
      · skip
        refine lv_aload_n hx hb dX3_change_23 rfl (lv_at hl 0 rfl) ?_
        refine va_get (D := D) (ci := 3) (v := .ref pw) (C := RX3) (T := TX3) (N := 6) hx hb hts hin3 hown hK hP 0 rfl rfl 0 (by decide) hf10 (fun _ h9 => h9) rfl dX3_change_24 ?_
        have hPc : va_P D vwCl [(pw, .inr (1, [.int (zb w1.1), .int w1.2.1, .int w1.2.2]))] H := hP.sub [1] rfl
        have hDc : va_D A [(pw, .inr (1, [.int (zb w1.1), .int w1.2.1, .int w1.2.2]))] := hD.sub [1] (by decide) rfl
        refine z_callWi (ws' := [(h0, .inr (3, [.ref pw, .ref ct, .ref ih0, .ref rh0, .int (zb sq), .int le])), (pw, .inr (1, [.int (zb ((pw_write w1).2).1), .int (((pw_write w1).2).2.1), .int (((pw_write w1).2).2.2)])), (ih0, .inr (0, [.ref ia1, .ref ia2, .ref ia3, .ref ia4, .int dd.2.2.2.2])), (ia1, .inr (2, [.ref ib1])), (ib1, .inl (cI, 17, .inl dd.1)), (ia2, .inr (2, [.ref ib2])), (ib2, .inl (cI, 17, .inl dd.2.1)), (ia3, .inr (2, [.ref ib3])), (ib3, .inl (cI, 17, .inl dd.2.2.1)), (ia4, .inr (2, [.ref ib4])), (ib4, .inl (cI, 17, .inl dd.2.2.2.1)), (rh0, .inr (0, [.ref ra1, .ref ra2, .ref ra3, .ref ra4, .int ee.2.2.2.2])), (ra1, .inr (2, [.ref rb1])), (rb1, .inl (cI, 17, .inl ee.1)), (ra2, .inr (2, [.ref rb2])), (rb2, .inl (cI, 17, .inl ee.2.1)), (ra3, .inr (2, [.ref rb3])), (rb3, .inl (cI, 17, .inl ee.2.2.1)), (ra4, .inr (2, [.ref rb4])), (rb4, .inl (cI, 17, .inl ee.2.2.2.1))]) [1] [0, 2, 3, 4, 5, 6, 7, 8, 9, 10, 11, 12, 13, 14, 15, 16, 17, 18, 19] [(h0, .inr (3, [.ref pw, .ref ct, .ref ih0, .ref rh0, .int (zb sq), .int le])), (ih0, .inr (0, [.ref ia1, .ref ia2, .ref ia3, .ref ia4, .int dd.2.2.2.2])), (ia1, .inr (2, [.ref ib1])), (ib1, .inl (cI, 17, .inl dd.1)), (ia2, .inr (2, [.ref ib2])), (ib2, .inl (cI, 17, .inl dd.2.1)), (ia3, .inr (2, [.ref ib3])), (ib3, .inl (cI, 17, .inl dd.2.2.1)), (ia4, .inr (2, [.ref ib4])), (ib4, .inl (cI, 17, .inl dd.2.2.2.1)), (rh0, .inr (0, [.ref ra1, .ref ra2, .ref ra3, .ref ra4, .int ee.2.2.2.2])), (ra1, .inr (2, [.ref rb1])), (rb1, .inl (cI, 17, .inl ee.1)), (ra2, .inr (2, [.ref rb2])), (rb2, .inl (cI, 17, .inl ee.2.1)), (ra3, .inr (2, [.ref rb3])), (rb3, .inl (cI, 17, .inl ee.2.2.1)), (ra4, .inr (2, [.ref rb4])), (rb4, .inl (cI, 17, .inl ee.2.2.2.1))] [h0, pw, ih0, ia1, ib1, ia2, ib2, ia3, ib3, ia4, ib4, rh0, ra1, rb1, ra2, rb2, ra3, rb3, ra4, rb4] (va_runV (As := []) (rest := []) ⟨hx, hb, hml, hown, hts⟩ (c_X1_countWrite l D cI pw w1 H.size) (cwV 0 hts gX3_change_X1_countWrite rfl rfl rfl qd_X1_countWrite ⟨Nat.le_of_ble_eq_true rfl, Nat.le_of_ble_eq_true rfl⟩) ⟨z_Pw_blind, va_recv hK hP (ci := 1) (q0 := 1) rfl rfl, fun U hU hW => ⟨rfl, by rw [hU], by rw [hU]; exact hPc, va_K.moved hW.alike hK, hDc.weaken (fun _ _ _ _ => trivial)⟩⟩ rfl rfl hl.1 rfl (lv_room (Nat.le_of_ble_eq_true rfl)) dX3_change_27 ⟨Nat.le_of_ble_eq_true rfl, Nat.le_of_ble_eq_true rfl⟩) hP hD hS hA ⟨rfl, rfl, rfl, rfl, rfl, rfl, rfl⟩ (fun H locs hP hD hS => ?_)
        refine lv_if_ne (tgt := 35) hx hb dX3_change_30 (by decide) (fun c_3 => ?_) (fun c_3 => ?_)
        · skip
          refine lv_iinc (v := x2 + 1) (lv' := [(2, .int (x2 + 1)), (0, .ref h0), (1, .int (((ee.2.2.2.2 + 4) - 1) / 4))]) hx hb dX3_change_35 hl (k := 2) rfl (by rfl) (by decide) rfl (fun ls hl => ?_)
          refine lv_goto (tgt := 16) hx hb dX3_change_38 (by decide) ?_
          exact ih (j + 1) (x2 + 1) ((pw_write w1).2) (z_c_g hj ex2 c_1) (by omega) (by rw [ex2, nI_succ]) (v_writes_s er (z_c_g hj ex2 c_1) (z_b1 c_3)) H locs ls hP hD hS (lv_sub hl [1, 2, 0] rfl)
        · skip
          refine lv_iconst (v := 0) hx hb dX3_change_33 (by decide) ?_
          have hE : v_change w dd ee = (false, (pw_write w1).2, dd) := by rw [v_change, if_pos (by rw [v_writes_f er (z_c_g hj ex2 c_1) (z_b0 c_3)]), v_writes_f er (z_c_g hj ex2 c_1) (z_b0 c_3)]
          have hPz : va_P D vwCl [(h0, .inr (3, [.ref pw, .ref ct, .ref ih0, .ref rh0, .int (zb sq), .int le])), (pw, .inr (1, [.int (zb ((v_change w dd ee).2.1).1), .int (((v_change w dd ee).2.1).2.1), .int (((v_change w dd ee).2.1).2.2)])), (ih0, .inr (0, [.ref ia1, .ref ia2, .ref ia3, .ref ia4, .int (((v_change w dd ee).2.2).2.2.2.2)])), (ia1, .inr (2, [.ref ib1])), (ib1, .inl (cI, 17, .inl (((v_change w dd ee).2.2).1))), (ia2, .inr (2, [.ref ib2])), (ib2, .inl (cI, 17, .inl (((v_change w dd ee).2.2).2.1))), (ia3, .inr (2, [.ref ib3])), (ib3, .inl (cI, 17, .inl (((v_change w dd ee).2.2).2.2.1))), (ia4, .inr (2, [.ref ib4])), (ib4, .inl (cI, 17, .inl (((v_change w dd ee).2.2).2.2.2.1))), (rh0, .inr (0, [.ref ra1, .ref ra2, .ref ra3, .ref ra4, .int ee.2.2.2.2])), (ra1, .inr (2, [.ref rb1])), (rb1, .inl (cI, 17, .inl ee.1)), (ra2, .inr (2, [.ref rb2])), (rb2, .inl (cI, 17, .inl ee.2.1)), (ra3, .inr (2, [.ref rb3])), (rb3, .inl (cI, 17, .inl ee.2.2.1)), (ra4, .inr (2, [.ref rb4])), (rb4, .inl (cI, 17, .inl ee.2.2.2.1))] H := by rw [hE]; exact hP
          have hRr : 0 = zb ((v_change w dd ee).1) := by first | (rw [hE]; done) | (rw [hE]; rfl)
          exact W.zret (v := 0) (ty := .boolean) hx hb hr rfl (fun t ht hW => ⟨⟨z_ret hRr, by rw [ht]; exact hPz⟩, hS.F ht⟩) hS.2.2 dX3_change_34
  refine lv_aload_n hx hb dX3_change_0 rfl (lv_at hl 0 rfl) ?_
  refine va_get (D := D) (ci := 3) (v := .ref rh0) (C := RX3) (T := TX3) (N := 6) hx hb hts hin3 hown hK hP 0 rfl rfl 3 (by decide) hf32 (fun _ h9 => h9) rfl dX3_change_1 ?_
  refine z_callRi (va_runV (As := []) (rest := []) ⟨hx, hb, hml, hown, hts⟩ (c_X0_count l D cI rh0 ra1 ra2 ra3 ra4 ee.2.2.2.2) (cwV 0 hts gX3_change_X0_count rfl rfl rfl qd_X0_count ⟨Nat.le_of_ble_eq_true rfl, Nat.le_of_ble_eq_true rfl⟩) ⟨z_Pr_blind, va_recv hK hP (ci := 0) (q0 := 11) rfl rfl, fun U hU hW => ⟨rfl, by rw [hU]; exact hP.sub (ws' := [(rh0, .inr (0, [.ref ra1, .ref ra2, .ref ra3, .ref ra4, .int ee.2.2.2.2]))]) [11] rfl, va_K.moved hW.alike hK⟩⟩ rfl rfl hl.1 rfl (lv_room (Nat.le_of_ble_eq_true rfl)) dX3_change_4 ⟨Nat.le_of_ble_eq_true rfl, Nat.le_of_ble_eq_true rfl⟩) ?_
  refine lv_iconst (v := 4) hx hb dX3_change_7 (by decide) ?_
  refine lv_iadd hx hb dX3_change_8 ?_
  refine lv_iconst (v := 1) hx hb dX3_change_9 (by decide) ?_
  refine lv_isub hx hb dX3_change_10 ?_
  refine lv_iconst (v := 4) hx hb dX3_change_11 (by decide) ?_
  refine lv_idiv hx hb dX3_change_12 (by decide) ?_
  refine lv_istore_n (lv' := [(1, .int (((ee.2.2.2.2 + 4) - 1) / 4)), (0, .ref h0)]) hx hb dX3_change_13 rfl hl (by decide) rfl (fun ls hl => ?_)
  refine lv_iconst (v := 0) hx hb dX3_change_14 (by decide) ?_
  refine lv_istore_n (lv' := [(2, .int 0), (1, .int (((ee.2.2.2.2 + 4) - 1) / 4)), (0, .ref h0)]) hx hb dX3_change_15 rfl hl (by decide) rfl (fun ls hl => ?_)
  exact L16 (((v_n ee).toNatClampNeg) + 1) 0 0 w (Nat.zero_le _) (by omega) nI_0.symm rfl H locs ls hP hD hS (lv_sub hl [2, 1, 0] rfl)
theorem qd_X3_writeBlock : yX3_writeBlock.cls = RX3 ∧ yX3_writeBlock.cls ≠ "java/lang/invoke/MethodHandle" ∧ yX3_writeBlock.cls ≠ "java/lang/invoke/VarHandle" ∧ (parseMethodDescriptor yX3_writeBlock.desc).map (fun d => d.parameters.length) = some 2 := by decide +kernel
set_option maxHeartbeats 400000 in
set_option maxRecDepth 100000 in
/-- writeBlock -/
theorem c_X3_writeBlock (l : Launch) (D : va_G) (cI : ClassId) (h0 : Nat) (pw : Nat) (ct : Nat) (cta : Nat) (ih0 : Nat) (rh0 : Nat) (w : zP) (ca : zA) (sq : Bool) (le : Int32) (p0 : Int32) (p1 : Int32) (sz : Nat) : Met l yX3_writeBlock wsX3_writeBlock ({ frames := 1, cells := 0, slots := 0, locals := 22 }) (z_Pw D cI [.ref h0, .int p0, .int p1] [(h0, .inr (3, [.ref pw, .ref ct, .ref ih0, .ref rh0, .int (zb sq), .int le])), (pw, .inr (1, [.int (zb w.1), .int w.2.1, .int w.2.2])), (ct, .inr (2, [.ref cta])), (cta, .inl (cI, 48, .inl ca))] sz) (z_Wo D (some (.int (zb ((v_wb w ca p0 p1).1)))) [(h0, .inr (3, [.ref pw, .ref ct, .ref ih0, .ref rh0, .int (zb sq), .int le])), (pw, .inr (1, [.int (zb ((v_wb w ca p0 p1).2.1).1), .int (((v_wb w ca p0 p1).2.1).2.1), .int (((v_wb w ca p0 p1).2.1).2.2)])), (ct, .inr (2, [.ref cta])), (cta, .inl (cI, 48, .inl ((v_wb w ca p0 p1).2.2)))] (va_A [(h0, .inr (3, [.ref pw, .ref ct, .ref ih0, .ref rh0, .int (zb sq), .int le])), (pw, .inr (1, [.int (zb w.1), .int w.2.1, .int w.2.2])), (ct, .inr (2, [.ref cta])), (cta, .inl (cI, 48, .inl ca))] sz)) 0 0 (va_A [(h0, .inr (3, [.ref pw, .ref ct, .ref ih0, .ref rh0, .int (zb sq), .int le])), (pw, .inr (1, [.int (zb w.1), .int w.2.1, .int w.2.2])), (ct, .inr (2, [.ref cta])), (cta, .inl (cI, 48, .inl ca))] sz) := by
  refine Met.ofW (cc := cX3_writeBlock) (maxL := 3) (ret := (some .boolean)) (by decide) rfl ?_
  intro p e s m args below meth c s₁ B hml hv
  obtain ⟨rfl, hsz, hP, hK, hD0⟩ := hv
  have hx := B.exec
  have hb := B.bytes
  have hr := B.returns
  have hts := atoms_spec (ws := wsX3_writeBlock) B.pre
  have hown : s.vm.findClass RX3 = some m.cls := findClass_of_methodNamed B.named
  have hlocks := B.notSynchronized
  subst hsz
  have hD := hD0.self (sz := s.heap.size)
  generalize hAe : va_A [(h0, .inr (3, [.ref pw, .ref ct, .ref ih0, .ref rh0, .int (zb sq), .int le])), (pw, .inr (1, [.int (zb w.1), .int w.2.1, .int w.2.2])), (ct, .inr (2, [.ref cta])), (cta, .inl (cI, 48, .inl ca))] s.heap.size = A at hD ⊢
  have hA : ∀ q : Nat, s.heap.size ≤ q → A q := fun q h => by rw [← hAe]; exact Or.inr h
  have hS : va_S A s.heap s.heap [] := va_S.rf
  have hP : va_P D vwCl [(h0, .inr (3, [.ref pw, .ref ct, .ref ih0, .ref rh0, .int (zb sq), .int le])), (pw, .inr (1, [.int (zb w.1), .int w.2.1, .int w.2.2])), (ct, .inr (2, [.ref cta])), (cta, .inl (cI, 48, .inl ca))] s.heap := hP
  have hl := lv_entry ([.ref h0, .int p0, .int p1]) (n := 3) (Nat.le_of_ble_eq_true rfl)
  rw [lg_entry_eq]
  generalize (lg_sl ([.ref h0, .int p0, .int p1]) ++ List.replicate (3 - (lg_sl ([.ref h0, .int p0, .int p1])).length) Slot.unset).toArray = ls at hl ⊢
  have hl : lv_has ls 3 [(0, .ref h0), (1, .int p0), (2, .int p1)] := hl
  refine z_start hP hS (fun H locs hP hS => ?_)
  have hin3 : ∀ w ∈ wsX30, w ∈ wsX3_writeBlock := by decide +kernel
  have hf10 := hts (.fieldLink RX3 10 "SqueezedVolume" "power" "LSqueezedVolume$Power;") (by decide +kernel)
  have hf21 := hts (.fieldLink RX3 21 "SqueezedVolume" "content" "LSqueezedVolume$Row;") (by decide +kernel)
  refine lv_aload_n hx hb dX3_writeBlock_0 rfl (lv_at hl 0 rfl) ?_
  refine va_get (D := D) (ci := 3) (v := .ref pw) (C := RX3) (T := TX3) (N := 6) hx hb hts hin3 hown hK hP 0 rfl rfl 0 (by decide) hf10 (fun _ h9 => h9) rfl dX3_writeBlock_1 ?_
  have hPc : va_P D vwCl [(pw, .inr (1, [.int (zb w.1), .int w.2.1, .int w.2.2]))] H := hP.sub [1] rfl
  have hDc : va_D A [(pw, .inr (1, [.int (zb w.1), .int w.2.1, .int w.2.2]))] := hD.sub [1] (by decide) rfl
  refine z_callWi (ws' := [(h0, .inr (3, [.ref pw, .ref ct, .ref ih0, .ref rh0, .int (zb sq), .int le])), (pw, .inr (1, [.int (zb ((pw_write w).2).1), .int (((pw_write w).2).2.1), .int (((pw_write w).2).2.2)])), (ct, .inr (2, [.ref cta])), (cta, .inl (cI, 48, .inl ca))]) [1] [0, 2, 3] [(h0, .inr (3, [.ref pw, .ref ct, .ref ih0, .ref rh0, .int (zb sq), .int le])), (ct, .inr (2, [.ref cta])), (cta, .inl (cI, 48, .inl ca))] [h0, pw, ct, cta] (va_runV (As := []) (rest := []) ⟨hx, hb, hml, hown, hts⟩ (c_X1_countWrite l D cI pw w H.size) (cwV 0 hts gX3_writeBlock_X1_countWrite rfl rfl rfl qd_X1_countWrite ⟨Nat.le_of_ble_eq_true rfl, Nat.le_of_ble_eq_true rfl⟩) ⟨z_Pw_blind, va_recv hK hP (ci := 1) (q0 := 1) rfl rfl, fun U hU hW => ⟨rfl, by rw [hU], by rw [hU]; exact hPc, va_K.moved hW.alike hK, hDc.weaken (fun _ _ _ _ => trivial)⟩⟩ rfl rfl hl.1 rfl (lv_room (Nat.le_of_ble_eq_true rfl)) dX3_writeBlock_4 ⟨Nat.le_of_ble_eq_true rfl, Nat.le_of_ble_eq_true rfl⟩) hP hD hS hA ⟨rfl, rfl, rfl, rfl, rfl, rfl, rfl⟩ (fun H locs hP hD hS => ?_)
  refine lv_if_ne (tgt := 12) hx hb dX3_writeBlock_7 (by decide) (fun c_1 => ?_) (fun c_1 => ?_)
  · skip
    refine lv_aload_n hx hb dX3_writeBlock_12 rfl (lv_at hl 0 rfl) ?_
    refine va_get (D := D) (ci := 3) (v := .ref ct) (C := RX3) (T := TX3) (N := 6) hx hb hts hin3 hown hK hP 0 rfl rfl 1 (by decide) hf21 (fun _ h9 => h9) rfl dX3_writeBlock_13 ?_
    refine lv_iload_n hx hb dX3_writeBlock_16 rfl (lv_at hl 1 rfl) ?_
    refine lv_iload_n hx hb dX3_writeBlock_17 rfl (lv_at hl 2 rfl) ?_
    have hPc : va_P D vwCl [(ct, .inr (2, [.ref cta])), (cta, .inl (cI, 48, .inl ca))] H := hP.sub [2, 3] rfl
    have hDc : va_D A [(ct, .inr (2, [.ref cta])), (cta, .inl (cI, 48, .inl ca))] := hD.sub [2, 3] (by decide) rfl
    refine z_callWv (ws' := [(h0, .inr (3, [.ref pw, .ref ct, .ref ih0, .ref rh0, .int (zb sq), .int le])), (pw, .inr (1, [.int (zb ((pw_write w).2).1), .int (((pw_write w).2).2.1), .int (((pw_write w).2).2.2)])), (ct, .inr (2, [.ref cta])), (cta, .inl (cI, 48, .inl (r_set 48 ca p0 p1)))]) [2, 3] [0, 1] [(h0, .inr (3, [.ref pw, .ref ct, .ref ih0, .ref rh0, .int (zb sq), .int le])), (pw, .inr (1, [.int (zb ((pw_write w).2).1), .int (((pw_write w).2).2.1), .int (((pw_write w).2).2.2)]))] [h0, pw, ct, cta] (va_runV (As := [.int p0, .int p1]) (rest := []) ⟨hx, hb, hml, hown, hts⟩ (c_X2_set l D cI ct cta 48 ca p0 p1 H.size (by decide)) (cwV 2 hts gX3_writeBlock_X2_set rfl rfl rfl qd_X2_set ⟨Nat.le_of_ble_eq_true rfl, Nat.le_of_ble_eq_true rfl⟩) ⟨z_Pw_blind, va_recv hK hP (ci := 2) (q0 := 2) rfl rfl, fun U hU hW => ⟨rfl, by rw [hU], by rw [hU]; exact hPc, va_K.moved hW.alike hK, hDc.weaken (fun _ _ _ _ => trivial)⟩⟩ rfl rfl hl.1 rfl (lv_room (Nat.le_of_ble_eq_true rfl)) dX3_writeBlock_18 ⟨Nat.le_of_ble_eq_true rfl, Nat.le_of_ble_eq_true rfl⟩) hP hD hS hA ⟨rfl, rfl, rfl, rfl, rfl, rfl, rfl⟩ (fun H locs hP hD hS => ?_)
    generalize hs_2 : r_set 48 ca p0 p1 = s_2 at hP hD ⊢
    refine lv_iconst (v := 1) hx hb dX3_writeBlock_21 (by decide) ?_
    have hE : v_wb w ca p0 p1 = (true, (pw_write w).2, s_2) := by subst hs_2; simp only [v_wb, if_neg (z_b1f c_1)] <;> rfl
    have hPz : va_P D vwCl [(h0, .inr (3, [.ref pw, .ref ct, .ref ih0, .ref rh0, .int (zb sq), .int le])), (pw, .inr (1, [.int (zb ((v_wb w ca p0 p1).2.1).1), .int (((v_wb w ca p0 p1).2.1).2.1), .int (((v_wb w ca p0 p1).2.1).2.2)])), (ct, .inr (2, [.ref cta])), (cta, .inl (cI, 48, .inl ((v_wb w ca p0 p1).2.2)))] H := by rw [hE]; exact hP
    have hRr : 1 = zb ((v_wb w ca p0 p1).1) := by first | (rw [hE]; done) | (rw [hE]; rfl)
    exact W.zret (v := 1) (ty := .boolean) hx hb hr rfl (fun t ht hW => ⟨⟨z_ret hRr, by rw [ht]; exact hPz⟩, hS.F ht⟩) hS.2.2 dX3_writeBlock_22
  · skip
    refine lv_iconst (v := 0) hx hb dX3_writeBlock_10 (by decide) ?_
    have hE : v_wb w ca p0 p1 = (false, (pw_write w).2, ca) := by simp only [v_wb, if_pos (z_b0 c_1)] <;> rfl
    have hPz : va_P D vwCl [(h0, .inr (3, [.ref pw, .ref ct, .ref ih0, .ref rh0, .int (zb sq), .int le])), (pw, .inr (1, [.int (zb ((v_wb w ca p0 p1).2.1).1), .int (((v_wb w ca p0 p1).2.1).2.1), .int (((v_wb w ca p0 p1).2.1).2.2)])), (ct, .inr (2, [.ref cta])), (cta, .inl (cI, 48, .inl ((v_wb w ca p0 p1).2.2)))] H := by rw [hE]; exact hP
    have hRr : 0 = zb ((v_wb w ca p0 p1).1) := by first | (rw [hE]; done) | (rw [hE]; rfl)
    exact W.zret (v := 0) (ty := .boolean) hx hb hr rfl (fun t ht hW => ⟨⟨z_ret hRr, by rw [ht]; exact hPz⟩, hS.F ht⟩) hS.2.2 dX3_writeBlock_11
theorem qd_X3_writeLedger : yX3_writeLedger.cls = RX3 ∧ yX3_writeLedger.cls ≠ "java/lang/invoke/MethodHandle" ∧ yX3_writeLedger.cls ≠ "java/lang/invoke/VarHandle" ∧ (parseMethodDescriptor yX3_writeLedger.desc).map (fun d => d.parameters.length) = some 1 := by decide +kernel
set_option maxHeartbeats 400000 in
set_option maxRecDepth 100000 in
/-- writeLedger -/
theorem c_X3_writeLedger (l : Launch) (D : va_G) (cI : ClassId) (h0 : Nat) (pw : Nat) (ct : Nat) (ih0 : Nat) (rh0 : Nat) (w : zP) (sq : Bool) (le : Int32) (p0 : Int32) (sz : Nat) : Met l yX3_writeLedger wsX3_writeLedger ({ frames := 1, cells := 0, slots := 0, locals := 20 }) (z_Pw D cI [.ref h0, .int p0] [(h0, .inr (3, [.ref pw, .ref ct, .ref ih0, .ref rh0, .int (zb sq), .int le])), (pw, .inr (1, [.int (zb w.1), .int w.2.1, .int w.2.2]))] sz) (z_Wo D (some (.int (zb ((v_wl w sq le p0).1)))) [(h0, .inr (3, [.ref pw, .ref ct, .ref ih0, .ref rh0, .int (zb ((v_wl w sq le p0).2.2.1)), .int ((v_wl w sq le p0).2.2.2)])), (pw, .inr (1, [.int (zb ((v_wl w sq le p0).2.1).1), .int (((v_wl w sq le p0).2.1).2.1), .int (((v_wl w sq le p0).2.1).2.2)]))] (va_A [(h0, .inr (3, [.ref pw, .ref ct, .ref ih0, .ref rh0, .int (zb sq), .int le])), (pw, .inr (1, [.int (zb w.1), .int w.2.1, .int w.2.2]))] sz)) 0 0 (va_A [(h0, .inr (3, [.ref pw, .ref ct, .ref ih0, .ref rh0, .int (zb sq), .int le])), (pw, .inr (1, [.int (zb w.1), .int w.2.1, .int w.2.2]))] sz) := by
  refine Met.ofW (cc := cX3_writeLedger) (maxL := 2) (ret := (some .boolean)) (by decide) rfl ?_
  intro p e s m args below meth c s₁ B hml hv
  obtain ⟨rfl, hsz, hP, hK, hD0⟩ := hv
  have hx := B.exec
  have hb := B.bytes
  have hr := B.returns
  have hts := atoms_spec (ws := wsX3_writeLedger) B.pre
  have hown : s.vm.findClass RX3 = some m.cls := findClass_of_methodNamed B.named
  have hlocks := B.notSynchronized
  subst hsz
  have hD := hD0.self (sz := s.heap.size)
  generalize hAe : va_A [(h0, .inr (3, [.ref pw, .ref ct, .ref ih0, .ref rh0, .int (zb sq), .int le])), (pw, .inr (1, [.int (zb w.1), .int w.2.1, .int w.2.2]))] s.heap.size = A at hD ⊢
  have hA : ∀ q : Nat, s.heap.size ≤ q → A q := fun q h => by rw [← hAe]; exact Or.inr h
  have hS : va_S A s.heap s.heap [] := va_S.rf
  have hP : va_P D vwCl [(h0, .inr (3, [.ref pw, .ref ct, .ref ih0, .ref rh0, .int (zb sq), .int le])), (pw, .inr (1, [.int (zb w.1), .int w.2.1, .int w.2.2]))] s.heap := hP
  have hl := lv_entry ([.ref h0, .int p0]) (n := 2) (Nat.le_of_ble_eq_true rfl)
  rw [lg_entry_eq]
  generalize (lg_sl ([.ref h0, .int p0]) ++ List.replicate (2 - (lg_sl ([.ref h0, .int p0])).length) Slot.unset).toArray = ls at hl ⊢
  have hl : lv_has ls 2 [(0, .ref h0), (1, .int p0)] := hl
  refine z_start hP hS (fun H locs hP hS => ?_)
  have hin3 : ∀ w ∈ wsX30, w ∈ wsX3_writeLedger := by decide +kernel
  have hf10 := hts (.fieldLink RX3 10 "SqueezedVolume" "power" "LSqueezedVolume$Power;") (by decide +kernel)
  have hf39 := hts (.fieldLink RX3 39 "SqueezedVolume" "ledger" "I") (by decide +kernel)
  have hf35 := hts (.fieldLink RX3 35 "SqueezedVolume" "squeezing" "Z") (by decide +kernel)
  refine lv_aload_n hx hb dX3_writeLedger_0 rfl (lv_at hl 0 rfl) ?_
  refine va_get (D := D) (ci := 3) (v := .ref pw) (C := RX3) (T := TX3) (N := 6) hx hb hts hin3 hown hK hP 0 rfl rfl 0 (by decide) hf10 (fun _ h9 => h9) rfl dX3_writeLedger_1 ?_
  have hPc : va_P D vwCl [(pw, .inr (1, [.int (zb w.1), .int w.2.1, .int w.2.2]))] H := hP.sub [1] rfl
  have hDc : va_D A [(pw, .inr (1, [.int (zb w.1), .int w.2.1, .int w.2.2]))] := hD.sub [1] (by decide) rfl
  refine z_callWi (ws' := [(h0, .inr (3, [.ref pw, .ref ct, .ref ih0, .ref rh0, .int (zb sq), .int le])), (pw, .inr (1, [.int (zb ((pw_write w).2).1), .int (((pw_write w).2).2.1), .int (((pw_write w).2).2.2)]))]) [1] [0] [(h0, .inr (3, [.ref pw, .ref ct, .ref ih0, .ref rh0, .int (zb sq), .int le]))] [h0, pw] (va_runV (As := []) (rest := []) ⟨hx, hb, hml, hown, hts⟩ (c_X1_countWrite l D cI pw w H.size) (cwV 0 hts gX3_writeLedger_X1_countWrite rfl rfl rfl qd_X1_countWrite ⟨Nat.le_of_ble_eq_true rfl, Nat.le_of_ble_eq_true rfl⟩) ⟨z_Pw_blind, va_recv hK hP (ci := 1) (q0 := 1) rfl rfl, fun U hU hW => ⟨rfl, by rw [hU], by rw [hU]; exact hPc, va_K.moved hW.alike hK, hDc.weaken (fun _ _ _ _ => trivial)⟩⟩ rfl rfl hl.1 rfl (lv_room (Nat.le_of_ble_eq_true rfl)) dX3_writeLedger_4 ⟨Nat.le_of_ble_eq_true rfl, Nat.le_of_ble_eq_true rfl⟩) hP hD hS hA ⟨rfl, rfl, rfl, rfl, rfl, rfl, rfl⟩ (fun H locs hP hD hS => ?_)
  refine lv_if_ne (tgt := 12) hx hb dX3_writeLedger_7 (by decide) (fun c_1 => ?_) (fun c_1 => ?_)
  · skip
    refine lv_aload_n hx hb dX3_writeLedger_12 rfl (lv_at hl 0 rfl) ?_
    refine lv_iload_n hx hb dX3_writeLedger_13 rfl (lv_at hl 1 rfl) ?_
    refine va_put (D := D) (ci := 3) (v := .int p0) (ty := .int) (C := RX3) (T := TX3) (N := 6) hx hb hts hin3 tyX3 tyX3_ok nmX3 hown hK hP hD hS 0 rfl rfl 5 (by decide) hf39 (fun _ h9 => h9) rfl (by decide +kernel) rfl rfl (Nat.le_of_ble_eq_true rfl) dX3_writeLedger_14 (fun H locs hP hD hS => ?_)
    have hP : va_P D vwCl [(h0, .inr (3, [.ref pw, .ref ct, .ref ih0, .ref rh0, .int (zb sq), .int p0])), (pw, .inr (1, [.int (zb ((pw_write w).2).1), .int (((pw_write w).2).2.1), .int (((pw_write w).2).2.2)]))] H := hP
    have hD : va_D A [(h0, .inr (3, [.ref pw, .ref ct, .ref ih0, .ref rh0, .int (zb sq), .int p0])), (pw, .inr (1, [.int (zb ((pw_write w).2).1), .int (((pw_write w).2).2.1), .int (((pw_write w).2).2.2)]))] := hD
    refine lv_aload_n hx hb dX3_writeLedger_17 rfl (lv_at hl 0 rfl) ?_
    refine lv_iconst (v := 1) hx hb dX3_writeLedger_18 (by decide) ?_
    refine va_put (D := D) (ci := 3) (v := .int (zb true)) (ty := .boolean) (C := RX3) (T := TX3) (N := 6) hx hb hts hin3 tyX3 tyX3_ok nmX3 hown hK hP hD hS 0 rfl rfl 4 (by decide) hf35 (fun _ h9 => h9) rfl (by decide +kernel) (z_nb _) (z_fb _) (Nat.le_of_ble_eq_true rfl) dX3_writeLedger_19 (fun H locs hP hD hS => ?_)
    have hP : va_P D vwCl [(h0, .inr (3, [.ref pw, .ref ct, .ref ih0, .ref rh0, .int (zb true), .int p0])), (pw, .inr (1, [.int (zb ((pw_write w).2).1), .int (((pw_write w).2).2.1), .int (((pw_write w).2).2.2)]))] H := hP
    have hD : va_D A [(h0, .inr (3, [.ref pw, .ref ct, .ref ih0, .ref rh0, .int (zb true), .int p0])), (pw, .inr (1, [.int (zb ((pw_write w).2).1), .int (((pw_write w).2).2.1), .int (((pw_write w).2).2.2)]))] := hD
    refine lv_iconst (v := 1) hx hb dX3_writeLedger_22 (by decide) ?_
    have hE : v_wl w sq le p0 = (true, (pw_write w).2, true, p0) := by simp only [v_wl, if_neg (z_b1f c_1)] <;> rfl
    have hPz : va_P D vwCl [(h0, .inr (3, [.ref pw, .ref ct, .ref ih0, .ref rh0, .int (zb ((v_wl w sq le p0).2.2.1)), .int ((v_wl w sq le p0).2.2.2)])), (pw, .inr (1, [.int (zb ((v_wl w sq le p0).2.1).1), .int (((v_wl w sq le p0).2.1).2.1), .int (((v_wl w sq le p0).2.1).2.2)]))] H := by rw [hE]; exact hP
    have hRr : 1 = zb ((v_wl w sq le p0).1) := by first | (rw [hE]; done) | (rw [hE]; rfl)
    exact W.zret (v := 1) (ty := .boolean) hx hb hr rfl (fun t ht hW => ⟨⟨z_ret hRr, by rw [ht]; exact hPz⟩, hS.F ht⟩) hS.2.2 dX3_writeLedger_23
  · skip
    refine lv_iconst (v := 0) hx hb dX3_writeLedger_10 (by decide) ?_
    have hE : v_wl w sq le p0 = (false, (pw_write w).2, sq, le) := by simp only [v_wl, if_pos (z_b0 c_1)] <;> rfl
    have hPz : va_P D vwCl [(h0, .inr (3, [.ref pw, .ref ct, .ref ih0, .ref rh0, .int (zb ((v_wl w sq le p0).2.2.1)), .int ((v_wl w sq le p0).2.2.2)])), (pw, .inr (1, [.int (zb ((v_wl w sq le p0).2.1).1), .int (((v_wl w sq le p0).2.1).2.1), .int (((v_wl w sq le p0).2.1).2.2)]))] H := by rw [hE]; exact hP
    have hRr : 0 = zb ((v_wl w sq le p0).1) := by first | (rw [hE]; done) | (rw [hE]; rfl)
    exact W.zret (v := 0) (ty := .boolean) hx hb hr rfl (fun t ht hW => ⟨⟨z_ret hRr, by rw [ht]; exact hPz⟩, hS.F ht⟩) hS.2.2 dX3_writeLedger_11

