abbrev zP : Type := Bool × Int32 × Int32
def pw_fail (w : zP) (n : Int32) : zP := (w.1, n, w.2.2)
def pw_come (w : zP) : zP := (true, -1, w.2.2)
/-- one write: whether it was made, and the power behind it -/
def pw_write (w : zP) : Bool × zP :=
  if w.2.1 = 0 then (false, false, w.2.1, w.2.2) else if w.1 = false then (false, w) else (true, w.1, if w.2.1 ≤ 0 then w.2.1 else w.2.1 - 1, w.2.2 + 1)
theorem z_b0 {b : Bool} (h : zb b = 0) : b = false := by cases b <;> simp_all [zb]
theorem z_b1 {b : Bool} (h : ¬ zb b = 0) : b = true := by cases b <;> simp_all [zb]
theorem z_b1f {b : Bool} (h : ¬ zb b = 0) : ¬ b = false := by cases b <;> simp_all [zb]
theorem qd_X1_isUp : yX1_isUp.cls = RX1 ∧ yX1_isUp.cls ≠ "java/lang/invoke/MethodHandle" ∧ yX1_isUp.cls ≠ "java/lang/invoke/VarHandle" ∧ (parseMethodDescriptor yX1_isUp.desc).map (fun d => d.parameters.length) = some 0 := by decide +kernel
set_option maxHeartbeats 400000 in
set_option maxRecDepth 100000 in
/-- Power.isUp -/
theorem c_X1_isUp (l : Launch) (D : va_G) (cI : ClassId) (h0 : Nat) (w : zP) : Met l yX1_isUp wsX1_isUp ({ frames := 0, cells := 0, slots := 0, locals := 0 }) (z_Pr D cI [.ref h0] [(h0, .inr (1, [.int (zb w.1), .int w.2.1, .int w.2.2]))]) (z_Ro (some (.int (zb w.1)))) 0 0 (fun _ => False) := by
  refine Met.ofW (cc := cX1_isUp) (maxL := 1) (ret := (some .boolean)) (by decide) rfl ?_
  intro p e s m args below meth c s₁ B hml hv
  obtain ⟨rfl, hP, hK⟩ := hv
  have hx := B.exec
  have hb := B.bytes
  have hr := B.returns
  have hts := atoms_spec (ws := wsX1_isUp) B.pre
  have hown : s.vm.findClass RX1 = some m.cls := findClass_of_methodNamed B.named
  have hlocks := B.notSynchronized
  have hP : va_P D vwCl [(h0, .inr (1, [.int (zb w.1), .int w.2.1, .int w.2.2]))] s.heap := hP
  have hl := lv_entry ([.ref h0]) (n := 1) (Nat.le_of_ble_eq_true rfl)
  rw [lg_entry_eq]
  generalize (lg_sl ([.ref h0]) ++ List.replicate (1 - (lg_sl ([.ref h0])).length) Slot.unset).toArray = ls at hl ⊢
  have hl : lv_has ls 1 [(0, .ref h0)] := hl
  have hin1 : ∀ w ∈ wsX10, w ∈ wsX1_isUp := by decide +kernel
  have hf9 := hts (.fieldLink RX1 9 "SqueezedVolume$Power" "up" "Z") (by decide +kernel)
  refine lv_aload_n hx hb dX1_isUp_0 rfl (lv_at hl 0 rfl) ?_
  refine va_get (D := D) (ci := 1) (v := .int (zb w.1)) (C := RX1) (T := TX1) (N := 3) hx hb hts hin1 hown hK hP 0 rfl rfl 0 (by decide) hf9 (fun _ h9 => h9) rfl dX1_isUp_1 ?_
  exact W.zret (v := zb w.1) (ty := .boolean) hx hb hr (z_nb _) (fun t ht hW => ⟨z_ret rfl, ht⟩) (fun _ h => nomatch h) dX1_isUp_4
theorem qd_X1_failAfter : yX1_failAfter.cls = RX1 ∧ yX1_failAfter.cls ≠ "java/lang/invoke/MethodHandle" ∧ yX1_failAfter.cls ≠ "java/lang/invoke/VarHandle" ∧ (parseMethodDescriptor yX1_failAfter.desc).map (fun d => d.parameters.length) = some 1 := by decide +kernel
set_option maxHeartbeats 400000 in
set_option maxRecDepth 100000 in
/-- Power.failAfter -/
theorem c_X1_failAfter (l : Launch) (D : va_G) (cI : ClassId) (h0 : Nat) (w : zP) (p0 : Int32) (sz : Nat) : Met l yX1_failAfter wsX1_failAfter ({ frames := 0, cells := 0, slots := 0, locals := 0 }) (z_Pw D cI [.ref h0, .int p0] [(h0, .inr (1, [.int (zb w.1), .int w.2.1, .int w.2.2]))] sz) (z_Wo D none [(h0, .inr (1, [.int (zb (pw_fail w p0).1), .int ((pw_fail w p0).2.1), .int ((pw_fail w p0).2.2)]))] (va_A [(h0, .inr (1, [.int (zb w.1), .int w.2.1, .int w.2.2]))] sz)) 0 0 (va_A [(h0, .inr (1, [.int (zb w.1), .int w.2.1, .int w.2.2]))] sz) := by
  refine Met.ofW (cc := cX1_failAfter) (maxL := 2) (ret := none) (by decide) rfl ?_
  intro p e s m args below meth c s₁ B hml hv
  obtain ⟨rfl, hsz, hP, hK, hD0⟩ := hv
  have hx := B.exec
  have hb := B.bytes
  have hr := B.returns
  have hts := atoms_spec (ws := wsX1_failAfter) B.pre
  have hown : s.vm.findClass RX1 = some m.cls := findClass_of_methodNamed B.named
  have hlocks := B.notSynchronized
  subst hsz
  have hD := hD0.self (sz := s.heap.size)
  generalize hAe : va_A [(h0, .inr (1, [.int (zb w.1), .int w.2.1, .int w.2.2]))] s.heap.size = A at hD ⊢
  have hA : ∀ q : Nat, s.heap.size ≤ q → A q := fun q h => by rw [← hAe]; exact Or.inr h
  have hS : va_S A s.heap s.heap [] := va_S.rf
  have hP : va_P D vwCl [(h0, .inr (1, [.int (zb w.1), .int w.2.1, .int w.2.2]))] s.heap := hP
  have hl := lv_entry ([.ref h0, .int p0]) (n := 2) (Nat.le_of_ble_eq_true rfl)
  rw [lg_entry_eq]
  generalize (lg_sl ([.ref h0, .int p0]) ++ List.replicate (2 - (lg_sl ([.ref h0, .int p0])).length) Slot.unset).toArray = ls at hl ⊢
  have hl : lv_has ls 2 [(0, .ref h0), (1, .int p0)] := hl
  refine z_start hP hS (fun H locs hP hS => ?_)
  have hin1 : ∀ w ∈ wsX10, w ∈ wsX1_failAfter := by decide +kernel
  have hf15 := hts (.fieldLink RX1 15 "SqueezedVolume$Power" "left" "I") (by decide +kernel)
  refine lv_aload_n hx hb dX1_failAfter_0 rfl (lv_at hl 0 rfl) ?_
  refine lv_iload_n hx hb dX1_failAfter_1 rfl (lv_at hl 1 rfl) ?_
  refine va_put (D := D) (ci := 1) (v := .int p0) (ty := .int) (C := RX1) (T := TX1) (N := 3) hx hb hts hin1 tyX1 tyX1_ok nmX1 hown hK hP hD hS 0 rfl rfl 1 (by decide) hf15 (fun _ h9 => h9) rfl (by decide +kernel) rfl rfl (Nat.le_of_ble_eq_true rfl) dX1_failAfter_2 (fun H locs hP hD hS => ?_)
  have hP : va_P D vwCl [(h0, .inr (1, [.int (zb w.1), .int p0, .int w.2.2]))] H := hP
  have hD : va_D A [(h0, .inr (1, [.int (zb w.1), .int p0, .int w.2.2]))] := hD
  have e9_0 : zb w.1 = zb (pw_fail w p0).1 := rfl
  have e9_1 : p0 = (pw_fail w p0).2.1 := rfl
  have e9_2 : w.2.2 = (pw_fail w p0).2.2 := rfl
  have hPz : va_P D vwCl [(h0, .inr (1, [.int (zb (pw_fail w p0).1), .int ((pw_fail w p0).2.1), .int ((pw_fail w p0).2.2)]))] H := by rw [← e9_0, ← e9_1, ← e9_2]; exact hP
  exact W.vret hx hb hr (fun t ht hW => ⟨⟨rfl, by rw [ht]; exact hPz⟩, hS.F ht⟩) hS.2.2 dX1_failAfter_5
theorem qd_X1_comeAgain : yX1_comeAgain.cls = RX1 ∧ yX1_comeAgain.cls ≠ "java/lang/invoke/MethodHandle" ∧ yX1_comeAgain.cls ≠ "java/lang/invoke/VarHandle" ∧ (parseMethodDescriptor yX1_comeAgain.desc).map (fun d => d.parameters.length) = some 0 := by decide +kernel
set_option maxHeartbeats 400000 in
set_option maxRecDepth 100000 in
/-- Power.comeAgain -/
theorem c_X1_comeAgain (l : Launch) (D : va_G) (cI : ClassId) (h0 : Nat) (w : zP) (sz : Nat) : Met l yX1_comeAgain wsX1_comeAgain ({ frames := 0, cells := 0, slots := 0, locals := 0 }) (z_Pw D cI [.ref h0] [(h0, .inr (1, [.int (zb w.1), .int w.2.1, .int w.2.2]))] sz) (z_Wo D none [(h0, .inr (1, [.int (zb (pw_come w).1), .int ((pw_come w).2.1), .int ((pw_come w).2.2)]))] (va_A [(h0, .inr (1, [.int (zb w.1), .int w.2.1, .int w.2.2]))] sz)) 0 0 (va_A [(h0, .inr (1, [.int (zb w.1), .int w.2.1, .int w.2.2]))] sz) := by
  refine Met.ofW (cc := cX1_comeAgain) (maxL := 1) (ret := none) (by decide) rfl ?_
  intro p e s m args below meth c s₁ B hml hv
  obtain ⟨rfl, hsz, hP, hK, hD0⟩ := hv
  have hx := B.exec
  have hb := B.bytes
  have hr := B.returns
  have hts := atoms_spec (ws := wsX1_comeAgain) B.pre
  have hown : s.vm.findClass RX1 = some m.cls := findClass_of_methodNamed B.named
  have hlocks := B.notSynchronized
  subst hsz
  have hD := hD0.self (sz := s.heap.size)
  generalize hAe : va_A [(h0, .inr (1, [.int (zb w.1), .int w.2.1, .int w.2.2]))] s.heap.size = A at hD ⊢
  have hA : ∀ q : Nat, s.heap.size ≤ q → A q := fun q h => by rw [← hAe]; exact Or.inr h
  have hS : va_S A s.heap s.heap [] := va_S.rf
  have hP : va_P D vwCl [(h0, .inr (1, [.int (zb w.1), .int w.2.1, .int w.2.2]))] s.heap := hP
  have hl := lv_entry ([.ref h0]) (n := 1) (Nat.le_of_ble_eq_true rfl)
  rw [lg_entry_eq]
  generalize (lg_sl ([.ref h0]) ++ List.replicate (1 - (lg_sl ([.ref h0])).length) Slot.unset).toArray = ls at hl ⊢
  have hl : lv_has ls 1 [(0, .ref h0)] := hl
  refine z_start hP hS (fun H locs hP hS => ?_)
  have hin1 : ∀ w ∈ wsX10, w ∈ wsX1_comeAgain := by decide +kernel
  have hf9 := hts (.fieldLink RX1 9 "SqueezedVolume$Power" "up" "Z") (by decide +kernel)
  have hf15 := hts (.fieldLink RX1 15 "SqueezedVolume$Power" "left" "I") (by decide +kernel)
  refine lv_aload_n hx hb dX1_comeAgain_0 rfl (lv_at hl 0 rfl) ?_
  refine lv_iconst (v := 1) hx hb dX1_comeAgain_1 (by decide) ?_
  refine va_put (D := D) (ci := 1) (v := .int (zb true)) (ty := .boolean) (C := RX1) (T := TX1) (N := 3) hx hb hts hin1 tyX1 tyX1_ok nmX1 hown hK hP hD hS 0 rfl rfl 0 (by decide) hf9 (fun _ h9 => h9) rfl (by decide +kernel) (z_nb _) (z_fb _) (Nat.le_of_ble_eq_true rfl) dX1_comeAgain_2 (fun H locs hP hD hS => ?_)
  have hP : va_P D vwCl [(h0, .inr (1, [.int (zb true), .int w.2.1, .int w.2.2]))] H := hP
  have hD : va_D A [(h0, .inr (1, [.int (zb true), .int w.2.1, .int w.2.2]))] := hD
  refine lv_aload_n hx hb dX1_comeAgain_5 rfl (lv_at hl 0 rfl) ?_
  refine lv_iconst (v := -1) hx hb dX1_comeAgain_6 (by decide) ?_
  refine va_put (D := D) (ci := 1) (v := .int (-1)) (ty := .int) (C := RX1) (T := TX1) (N := 3) hx hb hts hin1 tyX1 tyX1_ok nmX1 hown hK hP hD hS 0 rfl rfl 1 (by decide) hf15 (fun _ h9 => h9) rfl (by decide +kernel) rfl rfl (Nat.le_of_ble_eq_true rfl) dX1_comeAgain_7 (fun H locs hP hD hS => ?_)
  have hP : va_P D vwCl [(h0, .inr (1, [.int (zb true), .int (-1), .int w.2.2]))] H := hP
  have hD : va_D A [(h0, .inr (1, [.int (zb true), .int (-1), .int w.2.2]))] := hD
  have e9_0 : zb true = zb (pw_come w).1 := rfl
  have e9_1 : -1 = (pw_come w).2.1 := rfl
  have e9_2 : w.2.2 = (pw_come w).2.2 := rfl
  have hPz : va_P D vwCl [(h0, .inr (1, [.int (zb (pw_come w).1), .int ((pw_come w).2.1), .int ((pw_come w).2.2)]))] H := by rw [← e9_0, ← e9_1, ← e9_2]; exact hP
  exact W.vret hx hb hr (fun t ht hW => ⟨⟨rfl, by rw [ht]; exact hPz⟩, hS.F ht⟩) hS.2.2 dX1_comeAgain_10
theorem qd_X1_countWrite : yX1_countWrite.cls = RX1 ∧ yX1_countWrite.cls ≠ "java/lang/invoke/MethodHandle" ∧ yX1_countWrite.cls ≠ "java/lang/invoke/VarHandle" ∧ (parseMethodDescriptor yX1_countWrite.desc).map (fun d => d.parameters.length) = some 0 := by decide +kernel
set_option maxHeartbeats 400000 in
set_option maxRecDepth 100000 in
/-- Power.countWrite -/
theorem c_X1_countWrite (l : Launch) (D : va_G) (cI : ClassId) (h0 : Nat) (w : zP) (sz : Nat) : Met l yX1_countWrite wsX1_countWrite ({ frames := 0, cells := 0, slots := 0, locals := 0 }) (z_Pw D cI [.ref h0] [(h0, .inr (1, [.int (zb w.1), .int w.2.1, .int w.2.2]))] sz) (z_Wo D (some (.int (zb (pw_write w).1))) [(h0, .inr (1, [.int (zb ((pw_write w).2).1), .int (((pw_write w).2).2.1), .int (((pw_write w).2).2.2)]))] (va_A [(h0, .inr (1, [.int (zb w.1), .int w.2.1, .int w.2.2]))] sz)) 0 0 (va_A [(h0, .inr (1, [.int (zb w.1), .int w.2.1, .int w.2.2]))] sz) := by
  refine Met.ofW (cc := cX1_countWrite) (maxL := 1) (ret := (some .boolean)) (by decide) rfl ?_
  intro p e s m args below meth c s₁ B hml hv
  obtain ⟨rfl, hsz, hP, hK, hD0⟩ := hv
  have hx := B.exec
  have hb := B.bytes
  have hr := B.returns
  have hts := atoms_spec (ws := wsX1_countWrite) B.pre
  have hown : s.vm.findClass RX1 = some m.cls := findClass_of_methodNamed B.named
  have hlocks := B.notSynchronized
  subst hsz
  have hD := hD0.self (sz := s.heap.size)
  generalize hAe : va_A [(h0, .inr (1, [.int (zb w.1), .int w.2.1, .int w.2.2]))] s.heap.size = A at hD ⊢
  have hA : ∀ q : Nat, s.heap.size ≤ q → A q := fun q h => by rw [← hAe]; exact Or.inr h
  have hS : va_S A s.heap s.heap [] := va_S.rf
  have hP : va_P D vwCl [(h0, .inr (1, [.int (zb w.1), .int w.2.1, .int w.2.2]))] s.heap := hP
  have hl := lv_entry ([.ref h0]) (n := 1) (Nat.le_of_ble_eq_true rfl)
  rw [lg_entry_eq]
  generalize (lg_sl ([.ref h0]) ++ List.replicate (1 - (lg_sl ([.ref h0])).length) Slot.unset).toArray = ls at hl ⊢
  have hl : lv_has ls 1 [(0, .ref h0)] := hl
  refine z_start hP hS (fun H locs hP hS => ?_)
  have hin1 : ∀ w ∈ wsX10, w ∈ wsX1_countWrite := by decide +kernel
  have hf15 := hts (.fieldLink RX1 15 "SqueezedVolume$Power" "left" "I") (by decide +kernel)
  have hf9 := hts (.fieldLink RX1 9 "SqueezedVolume$Power" "up" "Z") (by decide +kernel)
  have hf19 := hts (.fieldLink RX1 19 "SqueezedVolume$Power" "count" "I") (by decide +kernel)
  refine lv_aload_n hx hb dX1_countWrite_0 rfl (lv_at hl 0 rfl) ?_
  refine va_get (D := D) (ci := 1) (v := .int w.2.1) (C := RX1) (T := TX1) (N := 3) hx hb hts hin1 hown hK hP 0 rfl rfl 1 (by decide) hf15 (fun _ h9 => h9) rfl dX1_countWrite_1 ?_
  refine lv_if_ne (tgt := 12) hx hb dX1_countWrite_4 (by decide) (fun c_1 => ?_) (fun c_1 => ?_)
  · skip
    refine lv_aload_n hx hb dX1_countWrite_12 rfl (lv_at hl 0 rfl) ?_
    refine va_get (D := D) (ci := 1) (v := .int (zb w.1)) (C := RX1) (T := TX1) (N := 3) hx hb hts hin1 hown hK hP 0 rfl rfl 0 (by decide) hf9 (fun _ h9 => h9) rfl dX1_countWrite_13 ?_
    refine lv_if_ne (tgt := 21) hx hb dX1_countWrite_16 (by decide) (fun c_2 => ?_) (fun c_2 => ?_)
    · skip
      refine lv_aload_n hx hb dX1_countWrite_21 rfl (lv_at hl 0 rfl) ?_
      refine va_get (D := D) (ci := 1) (v := .int w.2.1) (C := RX1) (T := TX1) (N := 3) hx hb hts hin1 hown hK hP 0 rfl rfl 1 (by decide) hf15 (fun _ h9 => h9) rfl dX1_countWrite_22 ?_
      refine lv_if_le (tgt := 38) hx hb dX1_countWrite_25 (by decide) (fun c_3 => ?_) (fun c_3 => ?_)
      · skip
        refine lv_aload_n hx hb dX1_countWrite_38 rfl (lv_at hl 0 rfl) ?_
        refine lv_dup hx hb dX1_countWrite_39 rfl ?_
        refine va_get (D := D) (ci := 1) (v := .int w.2.2) (C := RX1) (T := TX1) (N := 3) hx hb hts hin1 hown hK hP 0 rfl rfl 2 (by decide) hf19 (fun _ h9 => h9) rfl dX1_countWrite_40 ?_
        refine lv_iconst (v := 1) hx hb dX1_countWrite_43 (by decide) ?_
        refine lv_iadd hx hb dX1_countWrite_44 ?_
        refine va_put (D := D) (ci := 1) (v := .int (w.2.2 + 1)) (ty := .int) (C := RX1) (T := TX1) (N := 3) hx hb hts hin1 tyX1 tyX1_ok nmX1 hown hK hP hD hS 0 rfl rfl 2 (by decide) hf19 (fun _ h9 => h9) rfl (by decide +kernel) rfl rfl (Nat.le_of_ble_eq_true rfl) dX1_countWrite_45 (fun H locs hP hD hS => ?_)
        have hP : va_P D vwCl [(h0, .inr (1, [.int (zb w.1), .int w.2.1, .int (w.2.2 + 1)]))] H := hP
        have hD : va_D A [(h0, .inr (1, [.int (zb w.1), .int w.2.1, .int (w.2.2 + 1)]))] := hD
        refine lv_iconst (v := 1) hx hb dX1_countWrite_48 (by decide) ?_
        have e9_0 : zb w.1 = zb ((pw_write w).2).1 := by simp only [pw_write, if_neg c_1, if_neg (z_b1f c_2), if_pos c_3]
        have e9_1 : w.2.1 = ((pw_write w).2).2.1 := by simp only [pw_write, if_neg c_1, if_neg (z_b1f c_2), if_pos c_3]
        have e9_2 : w.2.2 + 1 = ((pw_write w).2).2.2 := by simp only [pw_write, if_neg c_1, if_neg (z_b1f c_2), if_pos c_3]
        have hPz : va_P D vwCl [(h0, .inr (1, [.int (zb ((pw_write w).2).1), .int (((pw_write w).2).2.1), .int (((pw_write w).2).2.2)]))] H := by rw [← e9_0, ← e9_1, ← e9_2]; exact hP
        exact W.zret (v := 1) (ty := .boolean) hx hb hr rfl (fun t ht hW => ⟨⟨z_ret (by simp only [pw_write, if_neg c_1, if_neg (z_b1f c_2), if_pos c_3]; rfl), by rw [ht]; exact hPz⟩, hS.F ht⟩) hS.2.2 dX1_countWrite_49
      · skip
        refine lv_aload_n hx hb dX1_countWrite_28 rfl (lv_at hl 0 rfl) ?_
        refine lv_dup hx hb dX1_countWrite_29 rfl ?_
        refine va_get (D := D) (ci := 1) (v := .int w.2.1) (C := RX1) (T := TX1) (N := 3) hx hb hts hin1 hown hK hP 0 rfl rfl 1 (by decide) hf15 (fun _ h9 => h9) rfl dX1_countWrite_30 ?_
        refine lv_iconst (v := 1) hx hb dX1_countWrite_33 (by decide) ?_
        refine lv_isub hx hb dX1_countWrite_34 ?_
        refine va_put (D := D) (ci := 1) (v := .int (w.2.1 - 1)) (ty := .int) (C := RX1) (T := TX1) (N := 3) hx hb hts hin1 tyX1 tyX1_ok nmX1 hown hK hP hD hS 0 rfl rfl 1 (by decide) hf15 (fun _ h9 => h9) rfl (by decide +kernel) rfl rfl (Nat.le_of_ble_eq_true rfl) dX1_countWrite_35 (fun H locs hP hD hS => ?_)
        have hP : va_P D vwCl [(h0, .inr (1, [.int (zb w.1), .int (w.2.1 - 1), .int w.2.2]))] H := hP
        have hD : va_D A [(h0, .inr (1, [.int (zb w.1), .int (w.2.1 - 1), .int w.2.2]))] := hD
        refine lv_aload_n hx hb dX1_countWrite_38 rfl (lv_at hl 0 rfl) ?_
        refine lv_dup hx hb dX1_countWrite_39 rfl ?_
        refine va_get (D := D) (ci := 1) (v := .int w.2.2) (C := RX1) (T := TX1) (N := 3) hx hb hts hin1 hown hK hP 0 rfl rfl 2 (by decide) hf19 (fun _ h9 => h9) rfl dX1_countWrite_40 ?_
        refine lv_iconst (v := 1) hx hb dX1_countWrite_43 (by decide) ?_
        refine lv_iadd hx hb dX1_countWrite_44 ?_
        refine va_put (D := D) (ci := 1) (v := .int (w.2.2 + 1)) (ty := .int) (C := RX1) (T := TX1) (N := 3) hx hb hts hin1 tyX1 tyX1_ok nmX1 hown hK hP hD hS 0 rfl rfl 2 (by decide) hf19 (fun _ h9 => h9) rfl (by decide +kernel) rfl rfl (Nat.le_of_ble_eq_true rfl) dX1_countWrite_45 (fun H locs hP hD hS => ?_)
        have hP : va_P D vwCl [(h0, .inr (1, [.int (zb w.1), .int (w.2.1 - 1), .int (w.2.2 + 1)]))] H := hP
        have hD : va_D A [(h0, .inr (1, [.int (zb w.1), .int (w.2.1 - 1), .int (w.2.2 + 1)]))] := hD
        refine lv_iconst (v := 1) hx hb dX1_countWrite_48 (by decide) ?_
        have e9_0 : zb w.1 = zb ((pw_write w).2).1 := by simp only [pw_write, if_neg c_1, if_neg (z_b1f c_2), if_neg c_3]
        have e9_1 : w.2.1 - 1 = ((pw_write w).2).2.1 := by simp only [pw_write, if_neg c_1, if_neg (z_b1f c_2), if_neg c_3]
        have e9_2 : w.2.2 + 1 = ((pw_write w).2).2.2 := by simp only [pw_write, if_neg c_1, if_neg (z_b1f c_2), if_neg c_3]
        have hPz : va_P D vwCl [(h0, .inr (1, [.int (zb ((pw_write w).2).1), .int (((pw_write w).2).2.1), .int (((pw_write w).2).2.2)]))] H := by rw [← e9_0, ← e9_1, ← e9_2]; exact hP
        exact W.zret (v := 1) (ty := .boolean) hx hb hr rfl (fun t ht hW => ⟨⟨z_ret (by simp only [pw_write, if_neg c_1, if_neg (z_b1f c_2), if_neg c_3]; rfl), by rw [ht]; exact hPz⟩, hS.F ht⟩) hS.2.2 dX1_countWrite_49
    · skip
      refine lv_iconst (v := 0) hx hb dX1_countWrite_19 (by decide) ?_
      have e9_0 : zb w.1 = zb ((pw_write w).2).1 := by simp only [pw_write, if_neg c_1, if_pos (z_b0 c_2)]
      have e9_1 : w.2.1 = ((pw_write w).2).2.1 := by simp only [pw_write, if_neg c_1, if_pos (z_b0 c_2)]
      have e9_2 : w.2.2 = ((pw_write w).2).2.2 := by simp only [pw_write, if_neg c_1, if_pos (z_b0 c_2)]
      have hPz : va_P D vwCl [(h0, .inr (1, [.int (zb ((pw_write w).2).1), .int (((pw_write w).2).2.1), .int (((pw_write w).2).2.2)]))] H := by rw [← e9_0, ← e9_1, ← e9_2]; exact hP
      exact W.zret (v := 0) (ty := .boolean) hx hb hr rfl (fun t ht hW => ⟨⟨z_ret (by simp only [pw_write, if_neg c_1, if_pos (z_b0 c_2)]; rfl), by rw [ht]; exact hPz⟩, hS.F ht⟩) hS.2.2 dX1_countWrite_20
  · skip
    refine lv_aload_n hx hb dX1_countWrite_7 rfl (lv_at hl 0 rfl) ?_
    refine lv_iconst (v := 0) hx hb dX1_countWrite_8 (by decide) ?_
    refine va_put (D := D) (ci := 1) (v := .int (zb false)) (ty := .boolean) (C := RX1) (T := TX1) (N := 3) hx hb hts hin1 tyX1 tyX1_ok nmX1 hown hK hP hD hS 0 rfl rfl 0 (by decide) hf9 (fun _ h9 => h9) rfl (by decide +kernel) (z_nb _) (z_fb _) (Nat.le_of_ble_eq_true rfl) dX1_countWrite_9 (fun H locs hP hD hS => ?_)
    have hP : va_P D vwCl [(h0, .inr (1, [.int (zb false), .int w.2.1, .int w.2.2]))] H := hP
    have hD : va_D A [(h0, .inr (1, [.int (zb false), .int w.2.1, .int w.2.2]))] := hD
    refine lv_aload_n hx hb dX1_countWrite_12 rfl (lv_at hl 0 rfl) ?_
    refine va_get (D := D) (ci := 1) (v := .int (zb false)) (C := RX1) (T := TX1) (N := 3) hx hb hts hin1 hown hK hP 0 rfl rfl 0 (by decide) hf9 (fun _ h9 => h9) rfl dX1_countWrite_13 ?_
    refine lv_if_ne (tgt := 21) hx hb dX1_countWrite_16 (by decide) (fun c_4 => ?_) (fun c_4 => ?_)
    · skip
      exact absurd (by decide) c_4
    · skip
      refine lv_iconst (v := 0) hx hb dX1_countWrite_19 (by decide) ?_
      have e9_0 : zb false = zb ((pw_write w).2).1 := by simp only [pw_write, if_pos c_1]
      have e9_1 : w.2.1 = ((pw_write w).2).2.1 := by simp only [pw_write, if_pos c_1]
      have e9_2 : w.2.2 = ((pw_write w).2).2.2 := by simp only [pw_write, if_pos c_1]
      have hPz : va_P D vwCl [(h0, .inr (1, [.int (zb ((pw_write w).2).1), .int (((pw_write w).2).2.1), .int (((pw_write w).2).2.2)]))] H := by rw [← e9_0, ← e9_1, ← e9_2]; exact hP
      exact W.zret (v := 0) (ty := .boolean) hx hb hr rfl (fun t ht hW => ⟨⟨z_ret (by simp only [pw_write, if_pos c_1]; rfl), by rw [ht]; exact hPz⟩, hS.F ht⟩) hS.2.2 dX1_countWrite_20
