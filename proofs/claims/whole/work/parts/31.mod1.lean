theorem qd_X4_thrown : yX4_thrown.cls = RX4 ∧ yX4_thrown.cls ≠ "java/lang/invoke/MethodHandle" ∧ yX4_thrown.cls ≠ "java/lang/invoke/VarHandle" ∧ (parseMethodDescriptor yX4_thrown.desc).map (fun d => d.parameters.length) = some 0 := by decide +kernel
set_option maxHeartbeats 400000 in
set_option maxRecDepth 100000 in
/-- thrown -/
theorem c_X4_thrown (l : Launch) (D : va_G) (cI : ClassId) (h0 : Nat) (g1 : Nat) (g2 : Nat) (g3 : Nat) (g4 : Nat) (g5 : Nat) (g6 : Nat) (code : Int32) (qq : zQ) (wi : Bool) (mo : Bool) (mv : Int32) (fr : Int32) (sh : Int32) (gr : Int32) (cp : Int32) (ra : Int32) (rl : Int32) : Met l yX4_thrown wsX4_thrown ({ frames := 0, cells := 0, slots := 0, locals := 0 }) (z_Pr D cI [.ref h0] [(h0, .inr (4, [.int code, .int (zb qq.1), .int qq.2.1, .int qq.2.2.1, .ref g1, .ref g2, .ref g3, .ref g4, .ref g5, .ref g6, .int (zb qq.2.2.2), .int (zb wi), .int (zb mo), .int mv, .int fr, .int sh, .int gr, .int cp, .int ra, .int rl]))]) (z_Ro (some (.int code))) 0 0 (fun _ => False) := by
  refine Met.ofW (cc := cX4_thrown) (maxL := 1) (ret := (some .int)) (by decide) rfl ?_
  intro p e s m args below meth c s₁ B hml hv
  obtain ⟨rfl, hP, hK⟩ := hv
  have hx := B.exec
  have hb := B.bytes
  have hr := B.returns
  have hts := atoms_spec (ws := wsX4_thrown) B.pre
  have hown : s.vm.findClass RX4 = some m.cls := findClass_of_methodNamed B.named
  have hlocks := B.notSynchronized
  have hP : va_P D vwCl [(h0, .inr (4, [.int code, .int (zb qq.1), .int qq.2.1, .int qq.2.2.1, .ref g1, .ref g2, .ref g3, .ref g4, .ref g5, .ref g6, .int (zb qq.2.2.2), .int (zb wi), .int (zb mo), .int mv, .int fr, .int sh, .int gr, .int cp, .int ra, .int rl]))] s.heap := hP
  have hl := lv_entry ([.ref h0]) (n := 1) (Nat.le_of_ble_eq_true rfl)
  rw [lg_entry_eq]
  generalize (lg_sl ([.ref h0]) ++ List.replicate (1 - (lg_sl ([.ref h0])).length) Slot.unset).toArray = ls at hl ⊢
  have hl : lv_has ls 1 [(0, .ref h0)] := hl
  have hin4 : ∀ w ∈ wsX40, w ∈ wsX4_thrown := by decide +kernel
  have hf36 := hts (.fieldLink RX4 36 "SqueezedVolumeModel" "code" "I") (by decide +kernel)
  refine lv_aload_n hx hb dX4_thrown_0 rfl (lv_at hl 0 rfl) ?_
  refine va_get (D := D) (ci := 4) (v := .int code) (C := RX4) (T := TX4) (N := 20) hx hb hts hin4 hown hK hP 0 rfl rfl 0 (by decide) hf36 (fun _ h9 => h9) rfl dX4_thrown_1 ?_
  exact W.iret (v := code) hx hb hr (fun t ht hW => ⟨z_ret rfl, ht⟩) (fun _ h => nomatch h) dX4_thrown_4
theorem qd_X4_write : yX4_write.cls = RX4 ∧ yX4_write.cls ≠ "java/lang/invoke/MethodHandle" ∧ yX4_write.cls ≠ "java/lang/invoke/VarHandle" ∧ (parseMethodDescriptor yX4_write.desc).map (fun d => d.parameters.length) = some 0 := by decide +kernel
set_option maxHeartbeats 400000 in
set_option maxRecDepth 100000 in
/-- write -/
theorem c_X4_write (l : Launch) (D : va_G) (cI : ClassId) (h0 : Nat) (g1 : Nat) (g2 : Nat) (g3 : Nat) (g4 : Nat) (g5 : Nat) (g6 : Nat) (code : Int32) (qq : zQ) (wi : Bool) (mo : Bool) (mv : Int32) (fr : Int32) (sh : Int32) (gr : Int32) (cp : Int32) (ra : Int32) (rl : Int32) (sz : Nat) : Met l yX4_write wsX4_write ({ frames := 0, cells := 0, slots := 0, locals := 0 }) (z_Pw D cI [.ref h0] [(h0, .inr (4, [.int code, .int (zb qq.1), .int qq.2.1, .int qq.2.2.1, .ref g1, .ref g2, .ref g3, .ref g4, .ref g5, .ref g6, .int (zb qq.2.2.2), .int (zb wi), .int (zb mo), .int mv, .int fr, .int sh, .int gr, .int cp, .int ra, .int rl]))] sz) (z_Wo D (some (.int (zb (m_write qq wi).1))) [(h0, .inr (4, [.int code, .int (zb ((m_write qq wi).2).1), .int (((m_write qq wi).2).2.1), .int (((m_write qq wi).2).2.2.1), .ref g1, .ref g2, .ref g3, .ref g4, .ref g5, .ref g6, .int (zb ((m_write qq wi).2).2.2.2), .int (zb wi), .int (zb mo), .int mv, .int fr, .int sh, .int gr, .int cp, .int ra, .int rl]))] (va_A [(h0, .inr (4, [.int code, .int (zb qq.1), .int qq.2.1, .int qq.2.2.1, .ref g1, .ref g2, .ref g3, .ref g4, .ref g5, .ref g6, .int (zb qq.2.2.2), .int (zb wi), .int (zb mo), .int mv, .int fr, .int sh, .int gr, .int cp, .int ra, .int rl]))] sz)) 0 0 (va_A [(h0, .inr (4, [.int code, .int (zb qq.1), .int qq.2.1, .int qq.2.2.1, .ref g1, .ref g2, .ref g3, .ref g4, .ref g5, .ref g6, .int (zb qq.2.2.2), .int (zb wi), .int (zb mo), .int mv, .int fr, .int sh, .int gr, .int cp, .int ra, .int rl]))] sz) := by
  refine Met.ofW (cc := cX4_write) (maxL := 1) (ret := (some .boolean)) (by decide) rfl ?_
  intro p e s m args below meth c s₁ B hml hv
  obtain ⟨rfl, hsz, hP, hK, hD0⟩ := hv
  have hx := B.exec
  have hb := B.bytes
  have hr := B.returns
  have hts := atoms_spec (ws := wsX4_write) B.pre
  have hown : s.vm.findClass RX4 = some m.cls := findClass_of_methodNamed B.named
  have hlocks := B.notSynchronized
  subst hsz
  have hD := hD0.self (sz := s.heap.size)
  generalize hAe : va_A [(h0, .inr (4, [.int code, .int (zb qq.1), .int qq.2.1, .int qq.2.2.1, .ref g1, .ref g2, .ref g3, .ref g4, .ref g5, .ref g6, .int (zb qq.2.2.2), .int (zb wi), .int (zb mo), .int mv, .int fr, .int sh, .int gr, .int cp, .int ra, .int rl]))] s.heap.size = A at hD ⊢
  have hA : ∀ q : Nat, s.heap.size ≤ q → A q := fun q h => by rw [← hAe]; exact Or.inr h
  have hS : va_S A s.heap s.heap [] := va_S.rf
  have hP : va_P D vwCl [(h0, .inr (4, [.int code, .int (zb qq.1), .int qq.2.1, .int qq.2.2.1, .ref g1, .ref g2, .ref g3, .ref g4, .ref g5, .ref g6, .int (zb qq.2.2.2), .int (zb wi), .int (zb mo), .int mv, .int fr, .int sh, .int gr, .int cp, .int ra, .int rl]))] s.heap := hP
  have hl := lv_entry ([.ref h0]) (n := 1) (Nat.le_of_ble_eq_true rfl)
  rw [lg_entry_eq]
  generalize (lg_sl ([.ref h0]) ++ List.replicate (1 - (lg_sl ([.ref h0])).length) Slot.unset).toArray = ls at hl ⊢
  have hl : lv_has ls 1 [(0, .ref h0)] := hl
  refine z_start hP hS (fun H locs hP hS => ?_)
  have hin4 : ∀ w ∈ wsX40, w ∈ wsX4_write := by decide +kernel
  have hf13 := hts (.fieldLink RX4 13 "SqueezedVolumeModel" "left" "I") (by decide +kernel)
  have hf39 := hts (.fieldLink RX4 39 "SqueezedVolumeModel" "writes" "I") (by decide +kernel)
  have hf42 := hts (.fieldLink RX4 42 "SqueezedVolumeModel" "squeezing" "Z") (by decide +kernel)
  have hf45 := hts (.fieldLink RX4 45 "SqueezedVolumeModel" "within" "Z") (by decide +kernel)
  have hf7 := hts (.fieldLink RX4 7 "SqueezedVolumeModel" "on" "Z") (by decide +kernel)
  refine lv_aload_n hx hb dX4_write_0 rfl (lv_at hl 0 rfl) ?_
  refine va_get (D := D) (ci := 4) (v := .int qq.2.1) (C := RX4) (T := TX4) (N := 20) hx hb hts hin4 hown hK hP 0 rfl rfl 2 (by decide) hf13 (fun _ h9 => h9) rfl dX4_write_1 ?_
  refine lv_if_ne (tgt := 14) hx hb dX4_write_4 (by decide) (fun c_1 => ?_) (fun c_1 => ?_)
  · skip
    refine lv_aload_n hx hb dX4_write_14 rfl (lv_at hl 0 rfl) ?_
    refine lv_aload_n hx hb dX4_write_15 rfl (lv_at hl 0 rfl) ?_
    refine va_get (D := D) (ci := 4) (v := .int qq.2.1) (C := RX4) (T := TX4) (N := 20) hx hb hts hin4 hown hK hP 0 rfl rfl 2 (by decide) hf13 (fun _ h9 => h9) rfl dX4_write_16 ?_
    refine lv_if_le (tgt := 31) hx hb dX4_write_19 (by decide) (fun c_2 => ?_) (fun c_2 => ?_)
    · skip
      refine lv_aload_n hx hb dX4_write_31 rfl (lv_at hl 0 rfl) ?_
      refine va_get (D := D) (ci := 4) (v := .int qq.2.1) (C := RX4) (T := TX4) (N := 20) hx hb hts hin4 hown hK hP 0 rfl rfl 2 (by decide) hf13 (fun _ h9 => h9) rfl dX4_write_32 ?_
      refine va_put (D := D) (ci := 4) (v := .int qq.2.1) (ty := .int) (C := RX4) (T := TX4) (N := 20) hx hb hts hin4 tyX4 tyX4_ok nmX4 hown hK hP hD hS 0 rfl rfl 2 (by decide) hf13 (fun _ h9 => h9) rfl (by decide +kernel) rfl rfl (Nat.le_of_ble_eq_true rfl) dX4_write_35 (fun H locs hP hD hS => ?_)
      have hP : va_P D vwCl [(h0, .inr (4, [.int code, .int (zb qq.1), .int qq.2.1, .int qq.2.2.1, .ref g1, .ref g2, .ref g3, .ref g4, .ref g5, .ref g6, .int (zb qq.2.2.2), .int (zb wi), .int (zb mo), .int mv, .int fr, .int sh, .int gr, .int cp, .int ra, .int rl]))] H := hP
      have hD : va_D A [(h0, .inr (4, [.int code, .int (zb qq.1), .int qq.2.1, .int qq.2.2.1, .ref g1, .ref g2, .ref g3, .ref g4, .ref g5, .ref g6, .int (zb qq.2.2.2), .int (zb wi), .int (zb mo), .int mv, .int fr, .int sh, .int gr, .int cp, .int ra, .int rl]))] := hD
      refine lv_aload_n hx hb dX4_write_38 rfl (lv_at hl 0 rfl) ?_
      refine lv_dup hx hb dX4_write_39 rfl ?_
      refine va_get (D := D) (ci := 4) (v := .int qq.2.2.1) (C := RX4) (T := TX4) (N := 20) hx hb hts hin4 hown hK hP 0 rfl rfl 3 (by decide) hf39 (fun _ h9 => h9) rfl dX4_write_40 ?_
      refine lv_iconst (v := 1) hx hb dX4_write_43 (by decide) ?_
      refine lv_iadd hx hb dX4_write_44 ?_
      refine va_put (D := D) (ci := 4) (v := .int (qq.2.2.1 + 1)) (ty := .int) (C := RX4) (T := TX4) (N := 20) hx hb hts hin4 tyX4 tyX4_ok nmX4 hown hK hP hD hS 0 rfl rfl 3 (by decide) hf39 (fun _ h9 => h9) rfl (by decide +kernel) rfl rfl (Nat.le_of_ble_eq_true rfl) dX4_write_45 (fun H locs hP hD hS => ?_)
      have hP : va_P D vwCl [(h0, .inr (4, [.int code, .int (zb qq.1), .int qq.2.1, .int (qq.2.2.1 + 1), .ref g1, .ref g2, .ref g3, .ref g4, .ref g5, .ref g6, .int (zb qq.2.2.2), .int (zb wi), .int (zb mo), .int mv, .int fr, .int sh, .int gr, .int cp, .int ra, .int rl]))] H := hP
      have hD : va_D A [(h0, .inr (4, [.int code, .int (zb qq.1), .int qq.2.1, .int (qq.2.2.1 + 1), .ref g1, .ref g2, .ref g3, .ref g4, .ref g5, .ref g6, .int (zb qq.2.2.2), .int (zb wi), .int (zb mo), .int mv, .int fr, .int sh, .int gr, .int cp, .int ra, .int rl]))] := hD
      refine lv_aload_n hx hb dX4_write_48 rfl (lv_at hl 0 rfl) ?_
      refine lv_aload_n hx hb dX4_write_49 rfl (lv_at hl 0 rfl) ?_
      refine va_get (D := D) (ci := 4) (v := .int (zb qq.2.2.2)) (C := RX4) (T := TX4) (N := 20) hx hb hts hin4 hown hK hP 0 rfl rfl 10 (by decide) hf42 (fun _ h9 => h9) rfl dX4_write_50 ?_
      refine lv_if_ne (tgt := 63) hx hb dX4_write_53 (by decide) (fun c_3 => ?_) (fun c_3 => ?_)
      · skip
        refine lv_iconst (v := 1) hx hb dX4_write_63 (by decide) ?_
        refine lv_goto (tgt := 68) hx hb dX4_write_64 (by decide) ?_
        refine va_put (D := D) (ci := 4) (v := .int (zb true)) (ty := .boolean) (C := RX4) (T := TX4) (N := 20) hx hb hts hin4 tyX4 tyX4_ok nmX4 hown hK hP hD hS 0 rfl rfl 10 (by decide) hf42 (fun _ h9 => h9) rfl (by decide +kernel) (z_nb _) (z_fb _) (Nat.le_of_ble_eq_true rfl) dX4_write_68 (fun H locs hP hD hS => ?_)
        have hP : va_P D vwCl [(h0, .inr (4, [.int code, .int (zb qq.1), .int qq.2.1, .int (qq.2.2.1 + 1), .ref g1, .ref g2, .ref g3, .ref g4, .ref g5, .ref g6, .int (zb true), .int (zb wi), .int (zb mo), .int mv, .int fr, .int sh, .int gr, .int cp, .int ra, .int rl]))] H := hP
        have hD : va_D A [(h0, .inr (4, [.int code, .int (zb qq.1), .int qq.2.1, .int (qq.2.2.1 + 1), .ref g1, .ref g2, .ref g3, .ref g4, .ref g5, .ref g6, .int (zb true), .int (zb wi), .int (zb mo), .int mv, .int fr, .int sh, .int gr, .int cp, .int ra, .int rl]))] := hD
        refine lv_iconst (v := 1) hx hb dX4_write_71 (by decide) ?_
        have e9_0 : zb qq.1 = zb ((m_write qq wi).2).1 := by simp only [m_write, if_neg c_1, if_pos c_2, if_neg (z_b1f c_3)] <;> rfl
        have e9_1 : qq.2.1 = ((m_write qq wi).2).2.1 := by simp only [m_write, if_neg c_1, if_pos c_2, if_neg (z_b1f c_3)] <;> rfl
        have e9_2 : qq.2.2.1 + 1 = ((m_write qq wi).2).2.2.1 := by simp only [m_write, if_neg c_1, if_pos c_2, if_neg (z_b1f c_3)] <;> rfl
        have e9_3 : zb true = zb ((m_write qq wi).2).2.2.2 := by simp only [m_write, if_neg c_1, if_pos c_2, if_neg (z_b1f c_3)] <;> rfl
        have hPz : va_P D vwCl [(h0, .inr (4, [.int code, .int (zb ((m_write qq wi).2).1), .int (((m_write qq wi).2).2.1), .int (((m_write qq wi).2).2.2.1), .ref g1, .ref g2, .ref g3, .ref g4, .ref g5, .ref g6, .int (zb ((m_write qq wi).2).2.2.2), .int (zb wi), .int (zb mo), .int mv, .int fr, .int sh, .int gr, .int cp, .int ra, .int rl]))] H := by rw [← e9_0, ← e9_1, ← e9_2, ← e9_3]; exact hP
        exact W.zret (v := 1) (ty := .boolean) hx hb hr rfl (fun t ht hW => ⟨⟨z_ret (by simp only [m_write, if_neg c_1, if_pos c_2, if_neg (z_b1f c_3)] <;> rfl), by rw [ht]; exact hPz⟩, hS.F ht⟩) hS.2.2 dX4_write_72
      · skip
        refine lv_aload_n hx hb dX4_write_56 rfl (lv_at hl 0 rfl) ?_
        refine va_get (D := D) (ci := 4) (v := .int (zb wi)) (C := RX4) (T := TX4) (N := 20) hx hb hts hin4 hown hK hP 0 rfl rfl 11 (by decide) hf45 (fun _ h9 => h9) rfl dX4_write_57 ?_
        refine lv_if_eq (tgt := 67) hx hb dX4_write_60 (by decide) (fun c_4 => ?_) (fun c_4 => ?_)
        · skip
          refine lv_iconst (v := 0) hx hb dX4_write_67 (by decide) ?_
          refine va_put (D := D) (ci := 4) (v := .int (zb false)) (ty := .boolean) (C := RX4) (T := TX4) (N := 20) hx hb hts hin4 tyX4 tyX4_ok nmX4 hown hK hP hD hS 0 rfl rfl 10 (by decide) hf42 (fun _ h9 => h9) rfl (by decide +kernel) (z_nb _) (z_fb _) (Nat.le_of_ble_eq_true rfl) dX4_write_68 (fun H locs hP hD hS => ?_)
          have hP : va_P D vwCl [(h0, .inr (4, [.int code, .int (zb qq.1), .int qq.2.1, .int (qq.2.2.1 + 1), .ref g1, .ref g2, .ref g3, .ref g4, .ref g5, .ref g6, .int (zb false), .int (zb wi), .int (zb mo), .int mv, .int fr, .int sh, .int gr, .int cp, .int ra, .int rl]))] H := hP
          have hD : va_D A [(h0, .inr (4, [.int code, .int (zb qq.1), .int qq.2.1, .int (qq.2.2.1 + 1), .ref g1, .ref g2, .ref g3, .ref g4, .ref g5, .ref g6, .int (zb false), .int (zb wi), .int (zb mo), .int mv, .int fr, .int sh, .int gr, .int cp, .int ra, .int rl]))] := hD
          refine lv_iconst (v := 1) hx hb dX4_write_71 (by decide) ?_
          have e9_0 : zb qq.1 = zb ((m_write qq wi).2).1 := by simp only [m_write, if_neg c_1, if_pos c_2, if_pos (z_b0 c_3), if_pos (z_b0 c_4)] <;> rfl
          have e9_1 : qq.2.1 = ((m_write qq wi).2).2.1 := by simp only [m_write, if_neg c_1, if_pos c_2, if_pos (z_b0 c_3), if_pos (z_b0 c_4)] <;> rfl
          have e9_2 : qq.2.2.1 + 1 = ((m_write qq wi).2).2.2.1 := by simp only [m_write, if_neg c_1, if_pos c_2, if_pos (z_b0 c_3), if_pos (z_b0 c_4)] <;> rfl
          have e9_3 : zb false = zb ((m_write qq wi).2).2.2.2 := by simp only [m_write, if_neg c_1, if_pos c_2, if_pos (z_b0 c_3), if_pos (z_b0 c_4)] <;> rfl
          have hPz : va_P D vwCl [(h0, .inr (4, [.int code, .int (zb ((m_write qq wi).2).1), .int (((m_write qq wi).2).2.1), .int (((m_write qq wi).2).2.2.1), .ref g1, .ref g2, .ref g3, .ref g4, .ref g5, .ref g6, .int (zb ((m_write qq wi).2).2.2.2), .int (zb wi), .int (zb mo), .int mv, .int fr, .int sh, .int gr, .int cp, .int ra, .int rl]))] H := by rw [← e9_0, ← e9_1, ← e9_2, ← e9_3]; exact hP
          exact W.zret (v := 1) (ty := .boolean) hx hb hr rfl (fun t ht hW => ⟨⟨z_ret (by simp only [m_write, if_neg c_1, if_pos c_2, if_pos (z_b0 c_3), if_pos (z_b0 c_4)] <;> rfl), by rw [ht]; exact hPz⟩, hS.F ht⟩) hS.2.2 dX4_write_72
        · skip
          refine lv_iconst (v := 1) hx hb dX4_write_63 (by decide) ?_
          refine lv_goto (tgt := 68) hx hb dX4_write_64 (by decide) ?_
          refine va_put (D := D) (ci := 4) (v := .int (zb true)) (ty := .boolean) (C := RX4) (T := TX4) (N := 20) hx hb hts hin4 tyX4 tyX4_ok nmX4 hown hK hP hD hS 0 rfl rfl 10 (by decide) hf42 (fun _ h9 => h9) rfl (by decide +kernel) (z_nb _) (z_fb _) (Nat.le_of_ble_eq_true rfl) dX4_write_68 (fun H locs hP hD hS => ?_)
          have hP : va_P D vwCl [(h0, .inr (4, [.int code, .int (zb qq.1), .int qq.2.1, .int (qq.2.2.1 + 1), .ref g1, .ref g2, .ref g3, .ref g4, .ref g5, .ref g6, .int (zb true), .int (zb wi), .int (zb mo), .int mv, .int fr, .int sh, .int gr, .int cp, .int ra, .int rl]))] H := hP
          have hD : va_D A [(h0, .inr (4, [.int code, .int (zb qq.1), .int qq.2.1, .int (qq.2.2.1 + 1), .ref g1, .ref g2, .ref g3, .ref g4, .ref g5, .ref g6, .int (zb true), .int (zb wi), .int (zb mo), .int mv, .int fr, .int sh, .int gr, .int cp, .int ra, .int rl]))] := hD
          refine lv_iconst (v := 1) hx hb dX4_write_71 (by decide) ?_
          have e9_0 : zb qq.1 = zb ((m_write qq wi).2).1 := by simp only [m_write, if_neg c_1, if_pos c_2, if_pos (z_b0 c_3), if_neg (z_b1f c_4)] <;> rfl
          have e9_1 : qq.2.1 = ((m_write qq wi).2).2.1 := by simp only [m_write, if_neg c_1, if_pos c_2, if_pos (z_b0 c_3), if_neg (z_b1f c_4)] <;> rfl
          have e9_2 : qq.2.2.1 + 1 = ((m_write qq wi).2).2.2.1 := by simp only [m_write, if_neg c_1, if_pos c_2, if_pos (z_b0 c_3), if_neg (z_b1f c_4)] <;> rfl
          have e9_3 : zb true = zb ((m_write qq wi).2).2.2.2 := by simp only [m_write, if_neg c_1, if_pos c_2, if_pos (z_b0 c_3), if_neg (z_b1f c_4)] <;> rfl
          have hPz : va_P D vwCl [(h0, .inr (4, [.int code, .int (zb ((m_write qq wi).2).1), .int (((m_write qq wi).2).2.1), .int (((m_write qq wi).2).2.2.1), .ref g1, .ref g2, .ref g3, .ref g4, .ref g5, .ref g6, .int (zb ((m_write qq wi).2).2.2.2), .int (zb wi), .int (zb mo), .int mv, .int fr, .int sh, .int gr, .int cp, .int ra, .int rl]))] H := by rw [← e9_0, ← e9_1, ← e9_2, ← e9_3]; exact hP
          exact W.zret (v := 1) (ty := .boolean) hx hb hr rfl (fun t ht hW => ⟨⟨z_ret (by simp only [m_write, if_neg c_1, if_pos c_2, if_pos (z_b0 c_3), if_neg (z_b1f c_4)] <;> rfl), by rw [ht]; exact hPz⟩, hS.F ht⟩) hS.2.2 dX4_write_72
    · skip
      refine lv_aload_n hx hb dX4_write_22 rfl (lv_at hl 0 rfl) ?_
      refine va_get (D := D) (ci := 4) (v := .int qq.2.1) (C := RX4) (T := TX4) (N := 20) hx hb hts hin4 hown hK hP 0 rfl rfl 2 (by decide) hf13 (fun _ h9 => h9) rfl dX4_write_23 ?_
      refine lv_iconst (v := 1) hx hb dX4_write_26 (by decide) ?_
      refine lv_isub hx hb dX4_write_27 ?_
      refine lv_goto (tgt := 35) hx hb dX4_write_28 (by decide) ?_
      refine va_put (D := D) (ci := 4) (v := .int (qq.2.1 - 1)) (ty := .int) (C := RX4) (T := TX4) (N := 20) hx hb hts hin4 tyX4 tyX4_ok nmX4 hown hK hP hD hS 0 rfl rfl 2 (by decide) hf13 (fun _ h9 => h9) rfl (by decide +kernel) rfl rfl (Nat.le_of_ble_eq_true rfl) dX4_write_35 (fun H locs hP hD hS => ?_)
      have hP : va_P D vwCl [(h0, .inr (4, [.int code, .int (zb qq.1), .int (qq.2.1 - 1), .int qq.2.2.1, .ref g1, .ref g2, .ref g3, .ref g4, .ref g5, .ref g6, .int (zb qq.2.2.2), .int (zb wi), .int (zb mo), .int mv, .int fr, .int sh, .int gr, .int cp, .int ra, .int rl]))] H := hP
      have hD : va_D A [(h0, .inr (4, [.int code, .int (zb qq.1), .int (qq.2.1 - 1), .int qq.2.2.1, .ref g1, .ref g2, .ref g3, .ref g4, .ref g5, .ref g6, .int (zb qq.2.2.2), .int (zb wi), .int (zb mo), .int mv, .int fr, .int sh, .int gr, .int cp, .int ra, .int rl]))] := hD
      refine lv_aload_n hx hb dX4_write_38 rfl (lv_at hl 0 rfl) ?_
      refine lv_dup hx hb dX4_write_39 rfl ?_
      refine va_get (D := D) (ci := 4) (v := .int qq.2.2.1) (C := RX4) (T := TX4) (N := 20) hx hb hts hin4 hown hK hP 0 rfl rfl 3 (by decide) hf39 (fun _ h9 => h9) rfl dX4_write_40 ?_
      refine lv_iconst (v := 1) hx hb dX4_write_43 (by decide) ?_
      refine lv_iadd hx hb dX4_write_44 ?_
      refine va_put (D := D) (ci := 4) (v := .int (qq.2.2.1 + 1)) (ty := .int) (C := RX4) (T := TX4) (N := 20) hx hb hts hin4 tyX4 tyX4_ok nmX4 hown hK hP hD hS 0 rfl rfl 3 (by decide) hf39 (fun _ h9 => h9) rfl (by decide +kernel) rfl rfl (Nat.le_of_ble_eq_true rfl) dX4_write_45 (fun H locs hP hD hS => ?_)
      have hP : va_P D vwCl [(h0, .inr (4, [.int code, .int (zb qq.1), .int (qq.2.1 - 1), .int (qq.2.2.1 + 1), .ref g1, .ref g2, .ref g3, .ref g4, .ref g5, .ref g6, .int (zb qq.2.2.2), .int (zb wi), .int (zb mo), .int mv, .int fr, .int sh, .int gr, .int cp, .int ra, .int rl]))] H := hP
      have hD : va_D A [(h0, .inr (4, [.int code, .int (zb qq.1), .int (qq.2.1 - 1), .int (qq.2.2.1 + 1), .ref g1, .ref g2, .ref g3, .ref g4, .ref g5, .ref g6, .int (zb qq.2.2.2), .int (zb wi), .int (zb mo), .int mv, .int fr, .int sh, .int gr, .int cp, .int ra, .int rl]))] := hD
      refine lv_aload_n hx hb dX4_write_48 rfl (lv_at hl 0 rfl) ?_
      refine lv_aload_n hx hb dX4_write_49 rfl (lv_at hl 0 rfl) ?_
      refine va_get (D := D) (ci := 4) (v := .int (zb qq.2.2.2)) (C := RX4) (T := TX4) (N := 20) hx hb hts hin4 hown hK hP 0 rfl rfl 10 (by decide) hf42 (fun _ h9 => h9) rfl dX4_write_50 ?_
      refine lv_if_ne (tgt := 63) hx hb dX4_write_53 (by decide) (fun c_5 => ?_) (fun c_5 => ?_)
      · skip
        refine lv_iconst (v := 1) hx hb dX4_write_63 (by decide) ?_
        refine lv_goto (tgt := 68) hx hb dX4_write_64 (by decide) ?_
        refine va_put (D := D) (ci := 4) (v := .int (zb true)) (ty := .boolean) (C := RX4) (T := TX4) (N := 20) hx hb hts hin4 tyX4 tyX4_ok nmX4 hown hK hP hD hS 0 rfl rfl 10 (by decide) hf42 (fun _ h9 => h9) rfl (by decide +kernel) (z_nb _) (z_fb _) (Nat.le_of_ble_eq_true rfl) dX4_write_68 (fun H locs hP hD hS => ?_)
        have hP : va_P D vwCl [(h0, .inr (4, [.int code, .int (zb qq.1), .int (qq.2.1 - 1), .int (qq.2.2.1 + 1), .ref g1, .ref g2, .ref g3, .ref g4, .ref g5, .ref g6, .int (zb true), .int (zb wi), .int (zb mo), .int mv, .int fr, .int sh, .int gr, .int cp, .int ra, .int rl]))] H := hP
        have hD : va_D A [(h0, .inr (4, [.int code, .int (zb qq.1), .int (qq.2.1 - 1), .int (qq.2.2.1 + 1), .ref g1, .ref g2, .ref g3, .ref g4, .ref g5, .ref g6, .int (zb true), .int (zb wi), .int (zb mo), .int mv, .int fr, .int sh, .int gr, .int cp, .int ra, .int rl]))] := hD
        refine lv_iconst (v := 1) hx hb dX4_write_71 (by decide) ?_
        have e9_0 : zb qq.1 = zb ((m_write qq wi).2).1 := by simp only [m_write, if_neg c_1, if_neg c_2, if_neg (z_b1f c_5)] <;> rfl
        have e9_1 : qq.2.1 - 1 = ((m_write qq wi).2).2.1 := by simp only [m_write, if_neg c_1, if_neg c_2, if_neg (z_b1f c_5)] <;> rfl
        have e9_2 : qq.2.2.1 + 1 = ((m_write qq wi).2).2.2.1 := by simp only [m_write, if_neg c_1, if_neg c_2, if_neg (z_b1f c_5)] <;> rfl
        have e9_3 : zb true = zb ((m_write qq wi).2).2.2.2 := by simp only [m_write, if_neg c_1, if_neg c_2, if_neg (z_b1f c_5)] <;> rfl
        have hPz : va_P D vwCl [(h0, .inr (4, [.int code, .int (zb ((m_write qq wi).2).1), .int (((m_write qq wi).2).2.1), .int (((m_write qq wi).2).2.2.1), .ref g1, .ref g2, .ref g3, .ref g4, .ref g5, .ref g6, .int (zb ((m_write qq wi).2).2.2.2), .int (zb wi), .int (zb mo), .int mv, .int fr, .int sh, .int gr, .int cp, .int ra, .int rl]))] H := by rw [← e9_0, ← e9_1, ← e9_2, ← e9_3]; exact hP
        exact W.zret (v := 1) (ty := .boolean) hx hb hr rfl (fun t ht hW => ⟨⟨z_ret (by simp only [m_write, if_neg c_1, if_neg c_2, if_neg (z_b1f c_5)] <;> rfl), by rw [ht]; exact hPz⟩, hS.F ht⟩) hS.2.2 dX4_write_72
      · skip
        refine lv_aload_n hx hb dX4_write_56 rfl (lv_at hl 0 rfl) ?_
        refine va_get (D := D) (ci := 4) (v := .int (zb wi)) (C := RX4) (T := TX4) (N := 20) hx hb hts hin4 hown hK hP 0 rfl rfl 11 (by decide) hf45 (fun _ h9 => h9) rfl dX4_write_57 ?_
        refine lv_if_eq (tgt := 67) hx hb dX4_write_60 (by decide) (fun c_6 => ?_) (fun c_6 => ?_)
        · skip
          refine lv_iconst (v := 0) hx hb dX4_write_67 (by decide) ?_
          refine va_put (D := D) (ci := 4) (v := .int (zb false)) (ty := .boolean) (C := RX4) (T := TX4) (N := 20) hx hb hts hin4 tyX4 tyX4_ok nmX4 hown hK hP hD hS 0 rfl rfl 10 (by decide) hf42 (fun _ h9 => h9) rfl (by decide +kernel) (z_nb _) (z_fb _) (Nat.le_of_ble_eq_true rfl) dX4_write_68 (fun H locs hP hD hS => ?_)
          have hP : va_P D vwCl [(h0, .inr (4, [.int code, .int (zb qq.1), .int (qq.2.1 - 1), .int (qq.2.2.1 + 1), .ref g1, .ref g2, .ref g3, .ref g4, .ref g5, .ref g6, .int (zb false), .int (zb wi), .int (zb mo), .int mv, .int fr, .int sh, .int gr, .int cp, .int ra, .int rl]))] H := hP
          have hD : va_D A [(h0, .inr (4, [.int code, .int (zb qq.1), .int (qq.2.1 - 1), .int (qq.2.2.1 + 1), .ref g1, .ref g2, .ref g3, .ref g4, .ref g5, .ref g6, .int (zb false), .int (zb wi), .int (zb mo), .int mv, .int fr, .int sh, .int gr, .int cp, .int ra, .int rl]))] := hD
          refine lv_iconst (v := 1) hx hb dX4_write_71 (by decide) ?_
          have e9_0 : zb qq.1 = zb ((m_write qq wi).2).1 := by simp only [m_write, if_neg c_1, if_neg c_2, if_pos (z_b0 c_5), if_pos (z_b0 c_6)] <;> rfl
          have e9_1 : qq.2.1 - 1 = ((m_write qq wi).2).2.1 := by simp only [m_write, if_neg c_1, if_neg c_2, if_pos (z_b0 c_5), if_pos (z_b0 c_6)] <;> rfl
          have e9_2 : qq.2.2.1 + 1 = ((m_write qq wi).2).2.2.1 := by simp only [m_write, if_neg c_1, if_neg c_2, if_pos (z_b0 c_5), if_pos (z_b0 c_6)] <;> rfl
          have e9_3 : zb false = zb ((m_write qq wi).2).2.2.2 := by simp only [m_write, if_neg c_1, if_neg c_2, if_pos (z_b0 c_5), if_pos (z_b0 c_6)] <;> rfl
          have hPz : va_P D vwCl [(h0, .inr (4, [.int code, .int (zb ((m_write qq wi).2).1), .int (((m_write qq wi).2).2.1), .int (((m_write qq wi).2).2.2.1), .ref g1, .ref g2, .ref g3, .ref g4, .ref g5, .ref g6, .int (zb ((m_write qq wi).2).2.2.2), .int (zb wi), .int (zb mo), .int mv, .int fr, .int sh, .int gr, .int cp, .int ra, .int rl]))] H := by rw [← e9_0, ← e9_1, ← e9_2, ← e9_3]; exact hP
          exact W.zret (v := 1) (ty := .boolean) hx hb hr rfl (fun t ht hW => ⟨⟨z_ret (by simp only [m_write, if_neg c_1, if_neg c_2, if_pos (z_b0 c_5), if_pos (z_b0 c_6)] <;> rfl), by rw [ht]; exact hPz⟩, hS.F ht⟩) hS.2.2 dX4_write_72
        · skip
          refine lv_iconst (v := 1) hx hb dX4_write_63 (by decide) ?_
          refine lv_goto (tgt := 68) hx hb dX4_write_64 (by decide) ?_
          refine va_put (D := D) (ci := 4) (v := .int (zb true)) (ty := .boolean) (C := RX4) (T := TX4) (N := 20) hx hb hts hin4 tyX4 tyX4_ok nmX4 hown hK hP hD hS 0 rfl rfl 10 (by decide) hf42 (fun _ h9 => h9) rfl (by decide +kernel) (z_nb _) (z_fb _) (Nat.le_of_ble_eq_true rfl) dX4_write_68 (fun H locs hP hD hS => ?_)
          have hP : va_P D vwCl [(h0, .inr (4, [.int code, .int (zb qq.1), .int (qq.2.1 - 1), .int (qq.2.2.1 + 1), .ref g1, .ref g2, .ref g3, .ref g4, .ref g5, .ref g6, .int (zb true), .int (zb wi), .int (zb mo), .int mv, .int fr, .int sh, .int gr, .int cp, .int ra, .int rl]))] H := hP
          have hD : va_D A [(h0, .inr (4, [.int code, .int (zb qq.1), .int (qq.2.1 - 1), .int (qq.2.2.1 + 1), .ref g1, .ref g2, .ref g3, .ref g4, .ref g5, .ref g6, .int (zb true), .int (zb wi), .int (zb mo), .int mv, .int fr, .int sh, .int gr, .int cp, .int ra, .int rl]))] := hD
          refine lv_iconst (v := 1) hx hb dX4_write_71 (by decide) ?_
          have e9_0 : zb qq.1 = zb ((m_write qq wi).2).1 := by simp only [m_write, if_neg c_1, if_neg c_2, if_pos (z_b0 c_5), if_neg (z_b1f c_6)] <;> rfl
          have e9_1 : qq.2.1 - 1 = ((m_write qq wi).2).2.1 := by simp only [m_write, if_neg c_1, if_neg c_2, if_pos (z_b0 c_5), if_neg (z_b1f c_6)] <;> rfl
          have e9_2 : qq.2.2.1 + 1 = ((m_write qq wi).2).2.2.1 := by simp only [m_write, if_neg c_1, if_neg c_2, if_pos (z_b0 c_5), if_neg (z_b1f c_6)] <;> rfl
          have e9_3 : zb true = zb ((m_write qq wi).2).2.2.2 := by simp only [m_write, if_neg c_1, if_neg c_2, if_pos (z_b0 c_5), if_neg (z_b1f c_6)] <;> rfl
          have hPz : va_P D vwCl [(h0, .inr (4, [.int code, .int (zb ((m_write qq wi).2).1), .int (((m_write qq wi).2).2.1), .int (((m_write qq wi).2).2.2.1), .ref g1, .ref g2, .ref g3, .ref g4, .ref g5, .ref g6, .int (zb ((m_write qq wi).2).2.2.2), .int (zb wi), .int (zb mo), .int mv, .int fr, .int sh, .int gr, .int cp, .int ra, .int rl]))] H := by rw [← e9_0, ← e9_1, ← e9_2, ← e9_3]; exact hP
          exact W.zret (v := 1) (ty := .boolean) hx hb hr rfl (fun t ht hW => ⟨⟨z_ret (by simp only [m_write, if_neg c_1, if_neg c_2, if_pos (z_b0 c_5), if_neg (z_b1f c_6)] <;> rfl), by rw [ht]; exact hPz⟩, hS.F ht⟩) hS.2.2 dX4_write_72
  · skip
    refine lv_aload_n hx hb dX4_write_7 rfl (lv_at hl 0 rfl) ?_
    refine lv_iconst (v := 0) hx hb dX4_write_8 (by decide) ?_
    refine va_put (D := D) (ci := 4) (v := .int (zb false)) (ty := .boolean) (C := RX4) (T := TX4) (N := 20) hx hb hts hin4 tyX4 tyX4_ok nmX4 hown hK hP hD hS 0 rfl rfl 1 (by decide) hf7 (fun _ h9 => h9) rfl (by decide +kernel) (z_nb _) (z_fb _) (Nat.le_of_ble_eq_true rfl) dX4_write_9 (fun H locs hP hD hS => ?_)
    have hP : va_P D vwCl [(h0, .inr (4, [.int code, .int (zb false), .int qq.2.1, .int qq.2.2.1, .ref g1, .ref g2, .ref g3, .ref g4, .ref g5, .ref g6, .int (zb qq.2.2.2), .int (zb wi), .int (zb mo), .int mv, .int fr, .int sh, .int gr, .int cp, .int ra, .int rl]))] H := hP
    have hD : va_D A [(h0, .inr (4, [.int code, .int (zb false), .int qq.2.1, .int qq.2.2.1, .ref g1, .ref g2, .ref g3, .ref g4, .ref g5, .ref g6, .int (zb qq.2.2.2), .int (zb wi), .int (zb mo), .int mv, .int fr, .int sh, .int gr, .int cp, .int ra, .int rl]))] := hD
    refine lv_iconst (v := 0) hx hb dX4_write_12 (by decide) ?_
    have e9_0 : zb false = zb ((m_write qq wi).2).1 := by simp only [m_write, if_pos c_1] <;> rfl
    have e9_1 : qq.2.1 = ((m_write qq wi).2).2.1 := by simp only [m_write, if_pos c_1] <;> rfl
    have e9_2 : qq.2.2.1 = ((m_write qq wi).2).2.2.1 := by simp only [m_write, if_pos c_1] <;> rfl
    have e9_3 : zb qq.2.2.2 = zb ((m_write qq wi).2).2.2.2 := by simp only [m_write, if_pos c_1] <;> rfl
    have hPz : va_P D vwCl [(h0, .inr (4, [.int code, .int (zb ((m_write qq wi).2).1), .int (((m_write qq wi).2).2.1), .int (((m_write qq wi).2).2.2.1), .ref g1, .ref g2, .ref g3, .ref g4, .ref g5, .ref g6, .int (zb ((m_write qq wi).2).2.2.2), .int (zb wi), .int (zb mo), .int mv, .int fr, .int sh, .int gr, .int cp, .int ra, .int rl]))] H := by rw [← e9_0, ← e9_1, ← e9_2, ← e9_3]; exact hP
    exact W.zret (v := 0) (ty := .boolean) hx hb hr rfl (fun t ht hW => ⟨⟨z_ret (by simp only [m_write, if_pos c_1] <;> rfl), by rw [ht]; exact hPz⟩, hS.F ht⟩) hS.2.2 dX4_write_13
theorem qd_X4_runs : yX4_runs.cls = RX4 ∧ yX4_runs.cls ≠ "java/lang/invoke/MethodHandle" ∧ yX4_runs.cls ≠ "java/lang/invoke/VarHandle" ∧ (parseMethodDescriptor yX4_runs.desc).map (fun d => d.parameters.length) = some 0 := by decide +kernel
set_option maxHeartbeats 400000 in
set_option maxRecDepth 100000 in
/-- runs -/
theorem c_X4_runs (l : Launch) (D : va_G) (cI : ClassId) (h0 : Nat) (g1 : Nat) (g2 : Nat) (g3 : Nat) (g4 : Nat) (g5 : Nat) (g6 : Nat) (code : Int32) (qq : zQ) (wi : Bool) (mo : Bool) (mv : Int32) (fr : Int32) (sh : Int32) (gr : Int32) (cp : Int32) (ra : Int32) (rl : Int32) (nx : zA) : Met l yX4_runs wsX4_runs ({ frames := 0, cells := 0, slots := 0, locals := 0 }) (z_Pr D cI [.ref h0] [(h0, .inr (4, [.int code, .int (zb qq.1), .int qq.2.1, .int qq.2.2.1, .ref g1, .ref g2, .ref g3, .ref g4, .ref g5, .ref g6, .int (zb qq.2.2.2), .int (zb wi), .int (zb mo), .int mv, .int fr, .int sh, .int gr, .int cp, .int ra, .int rl])), (g3, .inl (cI, 48, .inl nx))]) (z_Ro (some (.int (m_runF nx 48)))) 0 0 (fun _ => False) := by
  refine Met.ofW (cc := cX4_runs) (maxL := 3) (ret := (some .int)) (by decide) rfl ?_
  intro p e s m args below meth c s₁ B hml hv
  obtain ⟨rfl, hP, hK⟩ := hv
  have hx := B.exec
  have hb := B.bytes
  have hr := B.returns
  have hts := atoms_spec (ws := wsX4_runs) B.pre
  have hown : s.vm.findClass RX4 = some m.cls := findClass_of_methodNamed B.named
  have hlocks := B.notSynchronized
  have hP : va_P D vwCl [(h0, .inr (4, [.int code, .int (zb qq.1), .int qq.2.1, .int qq.2.2.1, .ref g1, .ref g2, .ref g3, .ref g4, .ref g5, .ref g6, .int (zb qq.2.2.2), .int (zb wi), .int (zb mo), .int mv, .int fr, .int sh, .int gr, .int cp, .int ra, .int rl])), (g3, .inl (cI, 48, .inl nx))] s.heap := hP
  have hl := lv_entry ([.ref h0]) (n := 3) (Nat.le_of_ble_eq_true rfl)
  rw [lg_entry_eq]
  generalize (lg_sl ([.ref h0]) ++ List.replicate (3 - (lg_sl ([.ref h0])).length) Slot.unset).toArray = ls at hl ⊢
  have hl : lv_has ls 3 [(0, .ref h0)] := hl
  have hin4 : ∀ w ∈ wsX40, w ∈ wsX4_runs := by decide +kernel
  have hf24 := hts (.fieldLink RX4 24 "SqueezedVolumeModel" "next" "[I") (by decide +kernel)
  have L4 : ∀ (k : Nat) (j : Nat) (x2 : Int32) (x1 : Int32), (j ≤ 48) → (48 + 1 ≤ j + k) → (x2 = nI j) → (x1 = m_runF nx j) → ∀ (ls : Array Slot), lv_has ls 3 [(0, .ref h0), (1, .int x1), (2, .int x2)] → W p l e ({ frames := 0, cells := 0, slots := 0, locals := 0 }) s m ([.ref h0] : List Value).toArray below meth c s.heap [] 0 0 (MQ below (z_Ro (some (.int (m_runF nx 48)))) ([.ref h0] : List Value).toArray s 0 0 (fun _ => False)) (F0 m 4 ls []) := by
    intro k
    induction k with
    | zero =>
      intro j x2 x1 hj hk ex2 ex1
      exfalso; omega
    | succ k ih =>
      intro j x2 x1 hj hk ex2 ex1
      intro ls hl
      refine lv_iload_n hx hb dX4_runs_4 rfl (lv_at hl 2 rfl) ?_
      refine lv_bipush (v := 48) hx hb dX4_runs_5 (by decide) ?_
      refine lv_icmp_ge (tgt := 45) hx hb dX4_runs_7 (by decide) (fun c_1 => ?_) (fun c_1 => ?_)
      · skip
        refine lv_iload_n hx hb dX4_runs_45 rfl (lv_at hl 1 rfl) ?_
        exact W.iret (v := x1) hx hb hr (fun t ht hW => ⟨z_ret (by rw [ex1, z48_e hj ex2 c_1]), ht⟩) (fun _ h => nomatch h) dX4_runs_46
      · skip
        refine lv_iload_n hx hb dX4_runs_10 rfl (lv_at hl 1 rfl) ?_
        refine lv_iload_n hx hb dX4_runs_11 rfl (lv_at hl 2 rfl) ?_
        refine lv_if_eq (tgt := 32) hx hb dX4_runs_12 (by decide) (fun c_2 => ?_) (fun c_2 => ?_)
        · skip
          refine lv_iconst (v := 1) hx hb dX4_runs_32 (by decide) ?_
          refine lv_goto (tgt := 37) hx hb dX4_runs_33 (by decide) ?_
          refine lv_iadd hx hb dX4_runs_37 ?_
          refine lv_istore_n (lv' := [(1, .int (x1 + 1)), (0, .ref h0), (2, .int x2)]) hx hb dX4_runs_38 rfl hl (by decide) rfl (fun ls hl => ?_)
          refine lv_iinc (v := x2 + 1) (lv' := [(2, .int (x2 + 1)), (1, .int (x1 + 1)), (0, .ref h0)]) hx hb dX4_runs_39 hl (k := 2) rfl (by rfl) (by decide) rfl (fun ls hl => ?_)
          refine lv_goto (tgt := 4) hx hb dX4_runs_42 (by decide) ?_
          exact ih (j + 1) (x2 + 1) (x1 + 1) (z48_s hj ex2 c_1) (by omega) (by rw [ex2, nI_succ]) (by subst ex1 ex2; simp only [m_runF, Int32.add_zero, if_pos c_2]) ls (lv_sub hl [2, 1, 0] rfl)
        · skip
          refine lv_aload_n hx hb dX4_runs_15 rfl (lv_at hl 0 rfl) ?_
          refine va_get (D := D) (ci := 4) (v := .ref g3) (C := RX4) (T := TX4) (N := 20) hx hb hts hin4 hown hK hP 0 rfl rfl 6 (by decide) hf24 (fun _ h9 => h9) rfl dX4_runs_16 ?_
          refine lv_iload_n hx hb dX4_runs_19 rfl (lv_at hl 2 rfl) ?_
          refine va_iald hx hb hK hP 1 0 rfl rfl (z_ix ex2 (z48_s hj ex2 c_1) (by decide)) dX4_runs_20 ?_
          refine W.eq (g2 := F0 m 21 ls [.int (nx j), .int x1]) (by rw [z_ic ex2 (z48_s hj ex2 c_1) (by decide)]) ?_
          refine lv_aload_n hx hb dX4_runs_21 rfl (lv_at hl 0 rfl) ?_
          refine va_get (D := D) (ci := 4) (v := .ref g3) (C := RX4) (T := TX4) (N := 20) hx hb hts hin4 hown hK hP 0 rfl rfl 6 (by decide) hf24 (fun _ h9 => h9) rfl dX4_runs_22 ?_
          refine lv_iload_n hx hb dX4_runs_25 rfl (lv_at hl 2 rfl) ?_
          refine lv_iconst (v := 1) hx hb dX4_runs_26 (by decide) ?_
          refine lv_isub hx hb dX4_runs_27 ?_
          refine va_iald hx hb hK hP 1 0 rfl rfl (z_ix (z_pr ex2 c_2) (z_prs ex2 c_2 (z48_s hj ex2 c_1)) (by decide)) dX4_runs_28 ?_
          refine W.eq (g2 := F0 m 29 ls [.int (nx (j - 1)), .int (nx j), .int x1]) (by rw [z_ic (z_pr ex2 c_2) (z_prs ex2 c_2 (z48_s hj ex2 c_1)) (by decide)]) ?_
          refine lv_icmp_eq (tgt := 36) hx hb dX4_runs_29 (by decide) (fun c_3 => ?_) (fun c_3 => ?_)
          · skip
            refine lv_iconst (v := 0) hx hb dX4_runs_36 (by decide) ?_
            refine lv_iadd hx hb dX4_runs_37 ?_
            refine lv_istore_n (lv' := [(1, .int (x1 + 0)), (0, .ref h0), (2, .int x2)]) hx hb dX4_runs_38 rfl hl (by decide) rfl (fun ls hl => ?_)
            refine lv_iinc (v := x2 + 1) (lv' := [(2, .int (x2 + 1)), (1, .int (x1 + 0)), (0, .ref h0)]) hx hb dX4_runs_39 hl (k := 2) rfl (by rfl) (by decide) rfl (fun ls hl => ?_)
            refine lv_goto (tgt := 4) hx hb dX4_runs_42 (by decide) ?_
            exact ih (j + 1) (x2 + 1) (x1 + 0) (z48_s hj ex2 c_1) (by omega) (by rw [ex2, nI_succ]) (by subst ex1 ex2; simp only [m_runF, Int32.add_zero, if_neg c_2, if_pos c_3]) ls (lv_sub hl [2, 1, 0] rfl)
          · skip
            refine lv_iconst (v := 1) hx hb dX4_runs_32 (by decide) ?_
            refine lv_goto (tgt := 37) hx hb dX4_runs_33 (by decide) ?_
            refine lv_iadd hx hb dX4_runs_37 ?_
            refine lv_istore_n (lv' := [(1, .int (x1 + 1)), (0, .ref h0), (2, .int x2)]) hx hb dX4_runs_38 rfl hl (by decide) rfl (fun ls hl => ?_)
            refine lv_iinc (v := x2 + 1) (lv' := [(2, .int (x2 + 1)), (1, .int (x1 + 1)), (0, .ref h0)]) hx hb dX4_runs_39 hl (k := 2) rfl (by rfl) (by decide) rfl (fun ls hl => ?_)
            refine lv_goto (tgt := 4) hx hb dX4_runs_42 (by decide) ?_
            exact ih (j + 1) (x2 + 1) (x1 + 1) (z48_s hj ex2 c_1) (by omega) (by rw [ex2, nI_succ]) (by subst ex1 ex2; simp only [m_runF, Int32.add_zero, if_neg c_2, if_neg c_3]) ls (lv_sub hl [2, 1, 0] rfl)
  refine lv_iconst (v := 0) hx hb dX4_runs_0 (by decide) ?_
  refine lv_istore_n (lv' := [(1, .int 0), (0, .ref h0)]) hx hb dX4_runs_1 rfl hl (by decide) rfl (fun ls hl => ?_)
  refine lv_iconst (v := 0) hx hb dX4_runs_2 (by decide) ?_
  refine lv_istore_n (lv' := [(2, .int 0), (1, .int 0), (0, .ref h0)]) hx hb dX4_runs_3 rfl hl (by decide) rfl (fun ls hl => ?_)
  exact L4 (48 + 1) 0 0 0 (Nat.zero_le _) (by omega) nI_0.symm rfl ls (lv_sub hl [2, 1, 0] rfl)
theorem qd_X4_runsNow : yX4_runsNow.cls = RX4 ∧ yX4_runsNow.cls ≠ "java/lang/invoke/MethodHandle" ∧ yX4_runsNow.cls ≠ "java/lang/invoke/VarHandle" ∧ (parseMethodDescriptor yX4_runsNow.desc).map (fun d => d.parameters.length) = some 0 := by decide +kernel
set_option maxHeartbeats 400000 in
set_option maxRecDepth 100000 in
/-- runsNow -/
theorem c_X4_runsNow (l : Launch) (D : va_G) (cI : ClassId) (h0 : Nat) (g1 : Nat) (g2 : Nat) (g3 : Nat) (g4 : Nat) (g5 : Nat) (g6 : Nat) (code : Int32) (qq : zQ) (wi : Bool) (mo : Bool) (mv : Int32) (fr : Int32) (sh : Int32) (gr : Int32) (cp : Int32) (ra : Int32) (rl : Int32) (ow : zA) : Met l yX4_runsNow wsX4_runsNow ({ frames := 0, cells := 0, slots := 0, locals := 0 }) (z_Pr D cI [.ref h0] [(h0, .inr (4, [.int code, .int (zb qq.1), .int qq.2.1, .int qq.2.2.1, .ref g1, .ref g2, .ref g3, .ref g4, .ref g5, .ref g6, .int (zb qq.2.2.2), .int (zb wi), .int (zb mo), .int mv, .int fr, .int sh, .int gr, .int cp, .int ra, .int rl])), (g2, .inl (cI, 48, .inl ow))]) (z_Ro (some (.int (m_runF ow 48)))) 0 0 (fun _ => False) := by
  refine Met.ofW (cc := cX4_runsNow) (maxL := 3) (ret := (some .int)) (by decide) rfl ?_
  intro p e s m args below meth c s₁ B hml hv
  obtain ⟨rfl, hP, hK⟩ := hv
  have hx := B.exec
  have hb := B.bytes
  have hr := B.returns
  have hts := atoms_spec (ws := wsX4_runsNow) B.pre
  have hown : s.vm.findClass RX4 = some m.cls := findClass_of_methodNamed B.named
  have hlocks := B.notSynchronized
  have hP : va_P D vwCl [(h0, .inr (4, [.int code, .int (zb qq.1), .int qq.2.1, .int qq.2.2.1, .ref g1, .ref g2, .ref g3, .ref g4, .ref g5, .ref g6, .int (zb qq.2.2.2), .int (zb wi), .int (zb mo), .int mv, .int fr, .int sh, .int gr, .int cp, .int ra, .int rl])), (g2, .inl (cI, 48, .inl ow))] s.heap := hP
  have hl := lv_entry ([.ref h0]) (n := 3) (Nat.le_of_ble_eq_true rfl)
  rw [lg_entry_eq]
  generalize (lg_sl ([.ref h0]) ++ List.replicate (3 - (lg_sl ([.ref h0])).length) Slot.unset).toArray = ls at hl ⊢
  have hl : lv_has ls 3 [(0, .ref h0)] := hl
  have hin4 : ∀ w ∈ wsX40, w ∈ wsX4_runsNow := by decide +kernel
  have hf21 := hts (.fieldLink RX4 21 "SqueezedVolumeModel" "owner" "[I") (by decide +kernel)
  have L4 : ∀ (k : Nat) (j : Nat) (x2 : Int32) (x1 : Int32), (j ≤ 48) → (48 + 1 ≤ j + k) → (x2 = nI j) → (x1 = m_runF ow j) → ∀ (ls : Array Slot), lv_has ls 3 [(0, .ref h0), (1, .int x1), (2, .int x2)] → W p l e ({ frames := 0, cells := 0, slots := 0, locals := 0 }) s m ([.ref h0] : List Value).toArray below meth c s.heap [] 0 0 (MQ below (z_Ro (some (.int (m_runF ow 48)))) ([.ref h0] : List Value).toArray s 0 0 (fun _ => False)) (F0 m 4 ls []) := by
    intro k
    induction k with
    | zero =>
      intro j x2 x1 hj hk ex2 ex1
      exfalso; omega
    | succ k ih =>
      intro j x2 x1 hj hk ex2 ex1
      intro ls hl
      refine lv_iload_n hx hb dX4_runsNow_4 rfl (lv_at hl 2 rfl) ?_
      refine lv_bipush (v := 48) hx hb dX4_runsNow_5 (by decide) ?_
      refine lv_icmp_ge (tgt := 45) hx hb dX4_runsNow_7 (by decide) (fun c_1 => ?_) (fun c_1 => ?_)
      · skip
        refine lv_iload_n hx hb dX4_runsNow_45 rfl (lv_at hl 1 rfl) ?_
        exact W.iret (v := x1) hx hb hr (fun t ht hW => ⟨z_ret (by rw [ex1, z48_e hj ex2 c_1]), ht⟩) (fun _ h => nomatch h) dX4_runsNow_46
      · skip
        refine lv_iload_n hx hb dX4_runsNow_10 rfl (lv_at hl 1 rfl) ?_
        refine lv_iload_n hx hb dX4_runsNow_11 rfl (lv_at hl 2 rfl) ?_
        refine lv_if_eq (tgt := 32) hx hb dX4_runsNow_12 (by decide) (fun c_2 => ?_) (fun c_2 => ?_)
        · skip
          refine lv_iconst (v := 1) hx hb dX4_runsNow_32 (by decide) ?_
          refine lv_goto (tgt := 37) hx hb dX4_runsNow_33 (by decide) ?_
          refine lv_iadd hx hb dX4_runsNow_37 ?_
          refine lv_istore_n (lv' := [(1, .int (x1 + 1)), (0, .ref h0), (2, .int x2)]) hx hb dX4_runsNow_38 rfl hl (by decide) rfl (fun ls hl => ?_)
          refine lv_iinc (v := x2 + 1) (lv' := [(2, .int (x2 + 1)), (1, .int (x1 + 1)), (0, .ref h0)]) hx hb dX4_runsNow_39 hl (k := 2) rfl (by rfl) (by decide) rfl (fun ls hl => ?_)
          refine lv_goto (tgt := 4) hx hb dX4_runsNow_42 (by decide) ?_
          exact ih (j + 1) (x2 + 1) (x1 + 1) (z48_s hj ex2 c_1) (by omega) (by rw [ex2, nI_succ]) (by subst ex1 ex2; simp only [m_runF, Int32.add_zero, if_pos c_2]) ls (lv_sub hl [2, 1, 0] rfl)
        · skip
          refine lv_aload_n hx hb dX4_runsNow_15 rfl (lv_at hl 0 rfl) ?_
          refine va_get (D := D) (ci := 4) (v := .ref g2) (C := RX4) (T := TX4) (N := 20) hx hb hts hin4 hown hK hP 0 rfl rfl 5 (by decide) hf21 (fun _ h9 => h9) rfl dX4_runsNow_16 ?_
          refine lv_iload_n hx hb dX4_runsNow_19 rfl (lv_at hl 2 rfl) ?_
          refine va_iald hx hb hK hP 1 0 rfl rfl (z_ix ex2 (z48_s hj ex2 c_1) (by decide)) dX4_runsNow_20 ?_
          refine W.eq (g2 := F0 m 21 ls [.int (ow j), .int x1]) (by rw [z_ic ex2 (z48_s hj ex2 c_1) (by decide)]) ?_
          refine lv_aload_n hx hb dX4_runsNow_21 rfl (lv_at hl 0 rfl) ?_
          refine va_get (D := D) (ci := 4) (v := .ref g2) (C := RX4) (T := TX4) (N := 20) hx hb hts hin4 hown hK hP 0 rfl rfl 5 (by decide) hf21 (fun _ h9 => h9) rfl dX4_runsNow_22 ?_
          refine lv_iload_n hx hb dX4_runsNow_25 rfl (lv_at hl 2 rfl) ?_
          refine lv_iconst (v := 1) hx hb dX4_runsNow_26 (by decide) ?_
          refine lv_isub hx hb dX4_runsNow_27 ?_
          refine va_iald hx hb hK hP 1 0 rfl rfl (z_ix (z_pr ex2 c_2) (z_prs ex2 c_2 (z48_s hj ex2 c_1)) (by decide)) dX4_runsNow_28 ?_
          refine W.eq (g2 := F0 m 29 ls [.int (ow (j - 1)), .int (ow j), .int x1]) (by rw [z_ic (z_pr ex2 c_2) (z_prs ex2 c_2 (z48_s hj ex2 c_1)) (by decide)]) ?_
          refine lv_icmp_eq (tgt := 36) hx hb dX4_runsNow_29 (by decide) (fun c_3 => ?_) (fun c_3 => ?_)
          · skip
            refine lv_iconst (v := 0) hx hb dX4_runsNow_36 (by decide) ?_
            refine lv_iadd hx hb dX4_runsNow_37 ?_
            refine lv_istore_n (lv' := [(1, .int (x1 + 0)), (0, .ref h0), (2, .int x2)]) hx hb dX4_runsNow_38 rfl hl (by decide) rfl (fun ls hl => ?_)
            refine lv_iinc (v := x2 + 1) (lv' := [(2, .int (x2 + 1)), (1, .int (x1 + 0)), (0, .ref h0)]) hx hb dX4_runsNow_39 hl (k := 2) rfl (by rfl) (by decide) rfl (fun ls hl => ?_)
            refine lv_goto (tgt := 4) hx hb dX4_runsNow_42 (by decide) ?_
            exact ih (j + 1) (x2 + 1) (x1 + 0) (z48_s hj ex2 c_1) (by omega) (by rw [ex2, nI_succ]) (by subst ex1 ex2; simp only [m_runF, Int32.add_zero, if_neg c_2, if_pos c_3]) ls (lv_sub hl [2, 1, 0] rfl)
          · skip
            refine lv_iconst (v := 1) hx hb dX4_runsNow_32 (by decide) ?_
            refine lv_goto (tgt := 37) hx hb dX4_runsNow_33 (by decide) ?_
            refine lv_iadd hx hb dX4_runsNow_37 ?_
            refine lv_istore_n (lv' := [(1, .int (x1 + 1)), (0, .ref h0), (2, .int x2)]) hx hb dX4_runsNow_38 rfl hl (by decide) rfl (fun ls hl => ?_)
            refine lv_iinc (v := x2 + 1) (lv' := [(2, .int (x2 + 1)), (1, .int (x1 + 1)), (0, .ref h0)]) hx hb dX4_runsNow_39 hl (k := 2) rfl (by rfl) (by decide) rfl (fun ls hl => ?_)
            refine lv_goto (tgt := 4) hx hb dX4_runsNow_42 (by decide) ?_
            exact ih (j + 1) (x2 + 1) (x1 + 1) (z48_s hj ex2 c_1) (by omega) (by rw [ex2, nI_succ]) (by subst ex1 ex2; simp only [m_runF, Int32.add_zero, if_neg c_2, if_neg c_3]) ls (lv_sub hl [2, 1, 0] rfl)
  refine lv_iconst (v := 0) hx hb dX4_runsNow_0 (by decide) ?_
  refine lv_istore_n (lv' := [(1, .int 0), (0, .ref h0)]) hx hb dX4_runsNow_1 rfl hl (by decide) rfl (fun ls hl => ?_)
  refine lv_iconst (v := 0) hx hb dX4_runsNow_2 (by decide) ?_
  refine lv_istore_n (lv' := [(2, .int 0), (1, .int 0), (0, .ref h0)]) hx hb dX4_runsNow_3 rfl hl (by decide) rfl (fun ls hl => ?_)
  exact L4 (48 + 1) 0 0 0 (Nat.zero_le _) (by omega) nI_0.symm rfl ls (lv_sub hl [2, 1, 0] rfl)
theorem qd_X4_lengthOf : yX4_lengthOf.cls = RX4 ∧ yX4_lengthOf.cls ≠ "java/lang/invoke/MethodHandle" ∧ yX4_lengthOf.cls ≠ "java/lang/invoke/VarHandle" ∧ (parseMethodDescriptor yX4_lengthOf.desc).map (fun d => d.parameters.length) = some 1 := by decide +kernel
set_option maxHeartbeats 400000 in
set_option maxRecDepth 100000 in
/-- lengthOf -/
theorem c_X4_lengthOf (l : Launch) (D : va_G) (cI : ClassId) (h0 : Nat) (g1 : Nat) (g2 : Nat) (g3 : Nat) (g4 : Nat) (g5 : Nat) (g6 : Nat) (code : Int32) (qq : zQ) (wi : Bool) (mo : Bool) (mv : Int32) (fr : Int32) (sh : Int32) (gr : Int32) (cp : Int32) (ra : Int32) (rl : Int32) (ow : zA) (p0 : Int32) : Met l yX4_lengthOf wsX4_lengthOf ({ frames := 0, cells := 0, slots := 0, locals := 0 }) (z_Pr D cI [.ref h0, .int p0] [(h0, .inr (4, [.int code, .int (zb qq.1), .int qq.2.1, .int qq.2.2.1, .ref g1, .ref g2, .ref g3, .ref g4, .ref g5, .ref g6, .int (zb qq.2.2.2), .int (zb wi), .int (zb mo), .int mv, .int fr, .int sh, .int gr, .int cp, .int ra, .int rl])), (g2, .inl (cI, 48, .inl ow))]) (z_Ro (some (.int (m_cnt ow p0 48)))) 0 0 (fun _ => False) := by
  refine Met.ofW (cc := cX4_lengthOf) (maxL := 4) (ret := (some .int)) (by decide) rfl ?_
  intro p e s m args below meth c s₁ B hml hv
  obtain ⟨rfl, hP, hK⟩ := hv
  have hx := B.exec
  have hb := B.bytes
  have hr := B.returns
  have hts := atoms_spec (ws := wsX4_lengthOf) B.pre
  have hown : s.vm.findClass RX4 = some m.cls := findClass_of_methodNamed B.named
  have hlocks := B.notSynchronized
  have hP : va_P D vwCl [(h0, .inr (4, [.int code, .int (zb qq.1), .int qq.2.1, .int qq.2.2.1, .ref g1, .ref g2, .ref g3, .ref g4, .ref g5, .ref g6, .int (zb qq.2.2.2), .int (zb wi), .int (zb mo), .int mv, .int fr, .int sh, .int gr, .int cp, .int ra, .int rl])), (g2, .inl (cI, 48, .inl ow))] s.heap := hP
  have hl := lv_entry ([.ref h0, .int p0]) (n := 4) (Nat.le_of_ble_eq_true rfl)
  rw [lg_entry_eq]
  generalize (lg_sl ([.ref h0, .int p0]) ++ List.replicate (4 - (lg_sl ([.ref h0, .int p0])).length) Slot.unset).toArray = ls at hl ⊢
  have hl : lv_has ls 4 [(0, .ref h0), (1, .int p0)] := hl
  have hin4 : ∀ w ∈ wsX40, w ∈ wsX4_lengthOf := by decide +kernel
  have hf21 := hts (.fieldLink RX4 21 "SqueezedVolumeModel" "owner" "[I") (by decide +kernel)
  have L4 : ∀ (k : Nat) (j : Nat) (x3 : Int32) (x2 : Int32), (j ≤ 48) → (48 + 1 ≤ j + k) → (x3 = nI j) → (x2 = m_cnt ow p0 j) → ∀ (ls : Array Slot), lv_has ls 4 [(0, .ref h0), (1, .int p0), (2, .int x2), (3, .int x3)] → W p l e ({ frames := 0, cells := 0, slots := 0, locals := 0 }) s m ([.ref h0, .int p0] : List Value).toArray below meth c s.heap [] 0 0 (MQ below (z_Ro (some (.int (m_cnt ow p0 48)))) ([.ref h0, .int p0] : List Value).toArray s 0 0 (fun _ => False)) (F0 m 4 ls []) := by
    intro k
    induction k with
    | zero =>
      intro j x3 x2 hj hk ex3 ex2
      exfalso; omega
    | succ k ih =>
      intro j x3 x2 hj hk ex3 ex2
      intro ls hl
      refine lv_iload_n hx hb dX4_lengthOf_4 rfl (lv_at hl 3 rfl) ?_
      refine lv_bipush (v := 48) hx hb dX4_lengthOf_5 (by decide) ?_
      refine lv_icmp_ge (tgt := 34) hx hb dX4_lengthOf_7 (by decide) (fun c_1 => ?_) (fun c_1 => ?_)
      · skip
        refine lv_iload_n hx hb dX4_lengthOf_34 rfl (lv_at hl 2 rfl) ?_
        exact W.iret (v := x2) hx hb hr (fun t ht hW => ⟨z_ret (by rw [ex2, z48_e hj ex3 c_1]), ht⟩) (fun _ h => nomatch h) dX4_lengthOf_35
      · skip
        refine lv_iload_n hx hb dX4_lengthOf_10 rfl (lv_at hl 2 rfl) ?_
        refine lv_aload_n hx hb dX4_lengthOf_11 rfl (lv_at hl 0 rfl) ?_
        refine va_get (D := D) (ci := 4) (v := .ref g2) (C := RX4) (T := TX4) (N := 20) hx hb hts hin4 hown hK hP 0 rfl rfl 5 (by decide) hf21 (fun _ h9 => h9) rfl dX4_lengthOf_12 ?_
        refine lv_iload_n hx hb dX4_lengthOf_15 rfl (lv_at hl 3 rfl) ?_
        refine va_iald hx hb hK hP 1 0 rfl rfl (z_ix ex3 (z48_s hj ex3 c_1) (by decide)) dX4_lengthOf_16 ?_
        refine W.eq (g2 := F0 m 17 ls [.int (ow j), .int x2]) (by rw [z_ic ex3 (z48_s hj ex3 c_1) (by decide)]) ?_
        refine lv_iload_n hx hb dX4_lengthOf_17 rfl (lv_at hl 1 rfl) ?_
        refine lv_icmp_ne (tgt := 25) hx hb dX4_lengthOf_18 (by decide) (fun c_2 => ?_) (fun c_2 => ?_)
        · skip
          refine lv_iconst (v := 0) hx hb dX4_lengthOf_25 (by decide) ?_
          refine lv_iadd hx hb dX4_lengthOf_26 ?_
          refine lv_istore_n (lv' := [(2, .int (x2 + 0)), (0, .ref h0), (1, .int p0), (3, .int x3)]) hx hb dX4_lengthOf_27 rfl hl (by decide) rfl (fun ls hl => ?_)
          refine lv_iinc (v := x3 + 1) (lv' := [(3, .int (x3 + 1)), (2, .int (x2 + 0)), (0, .ref h0), (1, .int p0)]) hx hb dX4_lengthOf_28 hl (k := 3) rfl (by rfl) (by decide) rfl (fun ls hl => ?_)
          refine lv_goto (tgt := 4) hx hb dX4_lengthOf_31 (by decide) ?_
          exact ih (j + 1) (x3 + 1) (x2 + 0) (z48_s hj ex3 c_1) (by omega) (by rw [ex3, nI_succ]) (by subst ex2 ex3; simp only [m_cnt, Int32.add_zero, if_neg c_2]) ls (lv_sub hl [2, 3, 1, 0] rfl)
        · skip
          refine lv_iconst (v := 1) hx hb dX4_lengthOf_21 (by decide) ?_
          refine lv_goto (tgt := 26) hx hb dX4_lengthOf_22 (by decide) ?_
          refine lv_iadd hx hb dX4_lengthOf_26 ?_
          refine lv_istore_n (lv' := [(2, .int (x2 + 1)), (0, .ref h0), (1, .int p0), (3, .int x3)]) hx hb dX4_lengthOf_27 rfl hl (by decide) rfl (fun ls hl => ?_)
          refine lv_iinc (v := x3 + 1) (lv' := [(3, .int (x3 + 1)), (2, .int (x2 + 1)), (0, .ref h0), (1, .int p0)]) hx hb dX4_lengthOf_28 hl (k := 3) rfl (by rfl) (by decide) rfl (fun ls hl => ?_)
          refine lv_goto (tgt := 4) hx hb dX4_lengthOf_31 (by decide) ?_
          exact ih (j + 1) (x3 + 1) (x2 + 1) (z48_s hj ex3 c_1) (by omega) (by rw [ex3, nI_succ]) (by subst ex2 ex3; simp only [m_cnt, Int32.add_zero, if_pos c_2]) ls (lv_sub hl [2, 3, 1, 0] rfl)
  refine lv_iconst (v := 0) hx hb dX4_lengthOf_0 (by decide) ?_
  refine lv_istore_n (lv' := [(2, .int 0), (0, .ref h0), (1, .int p0)]) hx hb dX4_lengthOf_1 rfl hl (by decide) rfl (fun ls hl => ?_)
  refine lv_iconst (v := 0) hx hb dX4_lengthOf_2 (by decide) ?_
  refine lv_istore_n (lv' := [(3, .int 0), (2, .int 0), (0, .ref h0), (1, .int p0)]) hx hb dX4_lengthOf_3 rfl hl (by decide) rfl (fun ls hl => ?_)
  exact L4 (48 + 1) 0 0 0 (Nat.zero_le _) (by omega) nI_0.symm rfl ls (lv_sub hl [2, 3, 1, 0] rfl)
theorem qd_X4_howMany : yX4_howMany.cls = RX4 ∧ yX4_howMany.cls ≠ "java/lang/invoke/MethodHandle" ∧ yX4_howMany.cls ≠ "java/lang/invoke/VarHandle" ∧ (parseMethodDescriptor yX4_howMany.desc).map (fun d => d.parameters.length) = some 1 := by decide +kernel
set_option maxHeartbeats 400000 in
set_option maxRecDepth 100000 in
/-- howMany -/
theorem c_X4_howMany (l : Launch) (D : va_G) (cI : ClassId) (h0 : Nat) (g1 : Nat) (g2 : Nat) (g3 : Nat) (g4 : Nat) (g5 : Nat) (g6 : Nat) (code : Int32) (qq : zQ) (wi : Bool) (mo : Bool) (mv : Int32) (fr : Int32) (sh : Int32) (gr : Int32) (cp : Int32) (ra : Int32) (rl : Int32) (ki : zA) (p0 : Int32) : Met l yX4_howMany wsX4_howMany ({ frames := 0, cells := 0, slots := 0, locals := 0 }) (z_Pr D cI [.ref h0, .int p0] [(h0, .inr (4, [.int code, .int (zb qq.1), .int qq.2.1, .int qq.2.2.1, .ref g1, .ref g2, .ref g3, .ref g4, .ref g5, .ref g6, .int (zb qq.2.2.2), .int (zb wi), .int (zb mo), .int mv, .int fr, .int sh, .int gr, .int cp, .int ra, .int rl])), (g4, .inl (cI, 17, .inl ki))]) (z_Ro (some (.int (m_many ki p0 16)))) 0 0 (fun _ => False) := by
  refine Met.ofW (cc := cX4_howMany) (maxL := 4) (ret := (some .int)) (by decide) rfl ?_
  intro p e s m args below meth c s₁ B hml hv
  obtain ⟨rfl, hP, hK⟩ := hv
  have hx := B.exec
  have hb := B.bytes
  have hr := B.returns
  have hts := atoms_spec (ws := wsX4_howMany) B.pre
  have hown : s.vm.findClass RX4 = some m.cls := findClass_of_methodNamed B.named
  have hlocks := B.notSynchronized
  have hP : va_P D vwCl [(h0, .inr (4, [.int code, .int (zb qq.1), .int qq.2.1, .int qq.2.2.1, .ref g1, .ref g2, .ref g3, .ref g4, .ref g5, .ref g6, .int (zb qq.2.2.2), .int (zb wi), .int (zb mo), .int mv, .int fr, .int sh, .int gr, .int cp, .int ra, .int rl])), (g4, .inl (cI, 17, .inl ki))] s.heap := hP
  have hl := lv_entry ([.ref h0, .int p0]) (n := 4) (Nat.le_of_ble_eq_true rfl)
  rw [lg_entry_eq]
  generalize (lg_sl ([.ref h0, .int p0]) ++ List.replicate (4 - (lg_sl ([.ref h0, .int p0])).length) Slot.unset).toArray = ls at hl ⊢
  have hl : lv_has ls 4 [(0, .ref h0), (1, .int p0)] := hl
  have hin4 : ∀ w ∈ wsX40, w ∈ wsX4_howMany := by decide +kernel
  have hf27 := hts (.fieldLink RX4 27 "SqueezedVolumeModel" "kind" "[I") (by decide +kernel)
  have L4 : ∀ (k : Nat) (j : Nat) (x3 : Int32) (x2 : Int32), (j ≤ 16) → (16 + 1 ≤ j + k) → (x3 = nI (j + 1)) → (x2 = m_many ki p0 j) → ∀ (ls : Array Slot), lv_has ls 4 [(0, .ref h0), (1, .int p0), (2, .int x2), (3, .int x3)] → W p l e ({ frames := 0, cells := 0, slots := 0, locals := 0 }) s m ([.ref h0, .int p0] : List Value).toArray below meth c s.heap [] 0 0 (MQ below (z_Ro (some (.int (m_many ki p0 16)))) ([.ref h0, .int p0] : List Value).toArray s 0 0 (fun _ => False)) (F0 m 4 ls []) := by
    intro k
    induction k with
    | zero =>
      intro j x3 x2 hj hk ex3 ex2
      exfalso; omega
    | succ k ih =>
      intro j x3 x2 hj hk ex3 ex2
      intro ls hl
      refine lv_iload_n hx hb dX4_howMany_4 rfl (lv_at hl 3 rfl) ?_
      refine lv_bipush (v := 17) hx hb dX4_howMany_5 (by decide) ?_
      refine lv_icmp_ge (tgt := 34) hx hb dX4_howMany_7 (by decide) (fun c_1 => ?_) (fun c_1 => ?_)
      · skip
        refine lv_iload_n hx hb dX4_howMany_34 rfl (lv_at hl 2 rfl) ?_
        exact W.iret (v := x2) hx hb hr (fun t ht hW => ⟨z_ret (by rw [ex2, z_f_e hj ex3 c_1]), ht⟩) (fun _ h => nomatch h) dX4_howMany_35
      · skip
        refine lv_iload_n hx hb dX4_howMany_10 rfl (lv_at hl 2 rfl) ?_
        refine lv_aload_n hx hb dX4_howMany_11 rfl (lv_at hl 0 rfl) ?_
        refine va_get (D := D) (ci := 4) (v := .ref g4) (C := RX4) (T := TX4) (N := 20) hx hb hts hin4 hown hK hP 0 rfl rfl 7 (by decide) hf27 (fun _ h9 => h9) rfl dX4_howMany_12 ?_
        refine lv_iload_n hx hb dX4_howMany_15 rfl (lv_at hl 3 rfl) ?_
        refine va_iald hx hb hK hP 1 0 rfl rfl (z_ix ex3 (z_f_17 (z_f_s hj ex3 c_1)) (by decide)) dX4_howMany_16 ?_
        refine W.eq (g2 := F0 m 17 ls [.int (ki (j + 1)), .int x2]) (by rw [z_ic ex3 (z_f_17 (z_f_s hj ex3 c_1)) (by decide)]) ?_
        refine lv_iload_n hx hb dX4_howMany_17 rfl (lv_at hl 1 rfl) ?_
        refine lv_icmp_ne (tgt := 25) hx hb dX4_howMany_18 (by decide) (fun c_2 => ?_) (fun c_2 => ?_)
        · skip
          refine lv_iconst (v := 0) hx hb dX4_howMany_25 (by decide) ?_
          refine lv_iadd hx hb dX4_howMany_26 ?_
          refine lv_istore_n (lv' := [(2, .int (x2 + 0)), (0, .ref h0), (1, .int p0), (3, .int x3)]) hx hb dX4_howMany_27 rfl hl (by decide) rfl (fun ls hl => ?_)
          refine lv_iinc (v := x3 + 1) (lv' := [(3, .int (x3 + 1)), (2, .int (x2 + 0)), (0, .ref h0), (1, .int p0)]) hx hb dX4_howMany_28 hl (k := 3) rfl (by rfl) (by decide) rfl (fun ls hl => ?_)
          refine lv_goto (tgt := 4) hx hb dX4_howMany_31 (by decide) ?_
          exact ih (j + 1) (x3 + 1) (x2 + 0) (z_f_s hj ex3 c_1) (by omega) (z_sx ex3) (by subst ex2 ex3; simp only [m_many, Int32.add_zero, if_neg c_2]) ls (lv_sub hl [2, 3, 1, 0] rfl)
        · skip
          refine lv_iconst (v := 1) hx hb dX4_howMany_21 (by decide) ?_
          refine lv_goto (tgt := 26) hx hb dX4_howMany_22 (by decide) ?_
          refine lv_iadd hx hb dX4_howMany_26 ?_
          refine lv_istore_n (lv' := [(2, .int (x2 + 1)), (0, .ref h0), (1, .int p0), (3, .int x3)]) hx hb dX4_howMany_27 rfl hl (by decide) rfl (fun ls hl => ?_)
          refine lv_iinc (v := x3 + 1) (lv' := [(3, .int (x3 + 1)), (2, .int (x2 + 1)), (0, .ref h0), (1, .int p0)]) hx hb dX4_howMany_28 hl (k := 3) rfl (by rfl) (by decide) rfl (fun ls hl => ?_)
          refine lv_goto (tgt := 4) hx hb dX4_howMany_31 (by decide) ?_
          exact ih (j + 1) (x3 + 1) (x2 + 1) (z_f_s hj ex3 c_1) (by omega) (z_sx ex3) (by subst ex2 ex3; simp only [m_many, Int32.add_zero, if_pos c_2]) ls (lv_sub hl [2, 3, 1, 0] rfl)
  refine lv_iconst (v := 0) hx hb dX4_howMany_0 (by decide) ?_
  refine lv_istore_n (lv' := [(2, .int 0), (0, .ref h0), (1, .int p0)]) hx hb dX4_howMany_1 rfl hl (by decide) rfl (fun ls hl => ?_)
  refine lv_iconst (v := 1) hx hb dX4_howMany_2 (by decide) ?_
  refine lv_istore_n (lv' := [(3, .int 1), (2, .int 0), (0, .ref h0), (1, .int p0)]) hx hb dX4_howMany_3 rfl hl (by decide) rfl (fun ls hl => ?_)
  exact L4 (16 + 1) 0 1 0 (Nat.zero_le _) (by omega) rfl rfl ls (lv_sub hl [2, 3, 1, 0] rfl)
theorem qd_X4_permanent : yX4_permanent.cls = RX4 ∧ yX4_permanent.cls ≠ "java/lang/invoke/MethodHandle" ∧ yX4_permanent.cls ≠ "java/lang/invoke/VarHandle" ∧ (parseMethodDescriptor yX4_permanent.desc).map (fun d => d.parameters.length) = some 1 := by decide +kernel
set_option maxHeartbeats 400000 in
set_option maxRecDepth 100000 in
/-- permanent -/
theorem c_X4_permanent (l : Launch) (D : va_G) (cI : ClassId) (h0 : Nat) (g1 : Nat) (g2 : Nat) (g3 : Nat) (g4 : Nat) (g5 : Nat) (g6 : Nat) (code : Int32) (qq : zQ) (wi : Bool) (mo : Bool) (mv : Int32) (fr : Int32) (sh : Int32) (gr : Int32) (cp : Int32) (ra : Int32) (rl : Int32) (ki : zA) (na : zA) (p0 : Int32) : Met l yX4_permanent wsX4_permanent ({ frames := 0, cells := 0, slots := 0, locals := 0 }) (z_Pr D cI [.ref h0, .int p0] [(h0, .inr (4, [.int code, .int (zb qq.1), .int qq.2.1, .int qq.2.2.1, .ref g1, .ref g2, .ref g3, .ref g4, .ref g5, .ref g6, .int (zb qq.2.2.2), .int (zb wi), .int (zb mo), .int mv, .int fr, .int sh, .int gr, .int cp, .int ra, .int rl])), (g4, .inl (cI, 17, .inl ki)), (g5, .inl (cI, 17, .inl na))]) (z_Ro (some (.int (nI (m_perm ki na p0))))) 0 0 (fun _ => False) := by
  refine Met.ofW (cc := cX4_permanent) (maxL := 4) (ret := (some .int)) (by decide) rfl ?_
  intro p e s m args below meth c s₁ B hml hv
  obtain ⟨rfl, hP, hK⟩ := hv
  have hx := B.exec
  have hb := B.bytes
  have hr := B.returns
  have hts := atoms_spec (ws := wsX4_permanent) B.pre
  have hown : s.vm.findClass RX4 = some m.cls := findClass_of_methodNamed B.named
  have hlocks := B.notSynchronized
  have hP : va_P D vwCl [(h0, .inr (4, [.int code, .int (zb qq.1), .int qq.2.1, .int qq.2.2.1, .ref g1, .ref g2, .ref g3, .ref g4, .ref g5, .ref g6, .int (zb qq.2.2.2), .int (zb wi), .int (zb mo), .int mv, .int fr, .int sh, .int gr, .int cp, .int ra, .int rl])), (g4, .inl (cI, 17, .inl ki)), (g5, .inl (cI, 17, .inl na))] s.heap := hP
  have hl := lv_entry ([.ref h0, .int p0]) (n := 4) (Nat.le_of_ble_eq_true rfl)
  rw [lg_entry_eq]
  generalize (lg_sl ([.ref h0, .int p0]) ++ List.replicate (4 - (lg_sl ([.ref h0, .int p0])).length) Slot.unset).toArray = ls at hl ⊢
  have hl : lv_has ls 4 [(0, .ref h0), (1, .int p0)] := hl
  have hin4 : ∀ w ∈ wsX40, w ∈ wsX4_permanent := by decide +kernel
  have hf27 := hts (.fieldLink RX4 27 "SqueezedVolumeModel" "kind" "[I") (by decide +kernel)
  have hf30 := hts (.fieldLink RX4 30 "SqueezedVolumeModel" "name" "[I") (by decide +kernel)
  have L4 : ∀ (k : Nat) (j : Nat) (x3 : Int32) (x2 : Int32), (j ≤ 16) → (16 + 1 ≤ j + k) → (x3 = nI (j + 1)) → (x2 = nI (m_permF ki na p0 j)) → ∀ (ls : Array Slot), lv_has ls 4 [(0, .ref h0), (1, .int p0), (2, .int x2), (3, .int x3)] → W p l e ({ frames := 0, cells := 0, slots := 0, locals := 0 }) s m ([.ref h0, .int p0] : List Value).toArray below meth c s.heap [] 0 0 (MQ below (z_Ro (some (.int (nI (m_perm ki na p0))))) ([.ref h0, .int p0] : List Value).toArray s 0 0 (fun _ => False)) (F0 m 4 ls []) := by
    intro k
    induction k with
    | zero =>
      intro j x3 x2 hj hk ex3 ex2
      exfalso; omega
    | succ k ih =>
      intro j x3 x2 hj hk ex3 ex2
      intro ls hl
      refine lv_iload_n hx hb dX4_permanent_4 rfl (lv_at hl 3 rfl) ?_
      refine lv_bipush (v := 17) hx hb dX4_permanent_5 (by decide) ?_
      refine lv_icmp_ge (tgt := 42) hx hb dX4_permanent_7 (by decide) (fun c_1 => ?_) (fun c_1 => ?_)
      · skip
        refine lv_iload_n hx hb dX4_permanent_42 rfl (lv_at hl 2 rfl) ?_
        exact W.iret (v := x2) hx hb hr (fun t ht hW => ⟨z_ret (by rw [ex2, z_f_e hj ex3 c_1, m_perm]), ht⟩) (fun _ h => nomatch h) dX4_permanent_43
      · skip
        refine lv_aload_n hx hb dX4_permanent_10 rfl (lv_at hl 0 rfl) ?_
        refine va_get (D := D) (ci := 4) (v := .ref g4) (C := RX4) (T := TX4) (N := 20) hx hb hts hin4 hown hK hP 0 rfl rfl 7 (by decide) hf27 (fun _ h9 => h9) rfl dX4_permanent_11 ?_
        refine lv_iload_n hx hb dX4_permanent_14 rfl (lv_at hl 3 rfl) ?_
        refine va_iald hx hb hK hP 1 0 rfl rfl (z_ix ex3 (z_f_17 (z_f_s hj ex3 c_1)) (by decide)) dX4_permanent_15 ?_
        refine W.eq (g2 := F0 m 16 ls [.int (ki (j + 1))]) (by rw [z_ic ex3 (z_f_17 (z_f_s hj ex3 c_1)) (by decide)]) ?_
        refine lv_iconst (v := 2) hx hb dX4_permanent_16 (by decide) ?_
        refine lv_icmp_ne (tgt := 34) hx hb dX4_permanent_17 (by decide) (fun c_2 => ?_) (fun c_2 => ?_)
        · skip
          refine lv_iload_n hx hb dX4_permanent_34 rfl (lv_at hl 2 rfl) ?_
          refine lv_istore_n (lv' := [(2, .int x2), (0, .ref h0), (1, .int p0), (3, .int x3)]) hx hb dX4_permanent_35 rfl hl (by decide) rfl (fun ls hl => ?_)
          refine lv_iinc (v := x3 + 1) (lv' := [(3, .int (x3 + 1)), (2, .int x2), (0, .ref h0), (1, .int p0)]) hx hb dX4_permanent_36 hl (k := 3) rfl (by rfl) (by decide) rfl (fun ls hl => ?_)
          refine lv_goto (tgt := 4) hx hb dX4_permanent_39 (by decide) ?_
          exact ih (j + 1) (x3 + 1) x2 (z_f_s hj ex3 c_1) (by omega) (z_sx ex3) (by subst ex2 ex3; simp only [m_permF, Int32.add_zero, if_neg c_2]) ls (lv_sub hl [2, 3, 1, 0] rfl)
        · skip
          refine lv_aload_n hx hb dX4_permanent_20 rfl (lv_at hl 0 rfl) ?_
          refine va_get (D := D) (ci := 4) (v := .ref g5) (C := RX4) (T := TX4) (N := 20) hx hb hts hin4 hown hK hP 0 rfl rfl 8 (by decide) hf30 (fun _ h9 => h9) rfl dX4_permanent_21 ?_
          refine lv_iload_n hx hb dX4_permanent_24 rfl (lv_at hl 3 rfl) ?_
          refine va_iald hx hb hK hP 2 0 rfl rfl (z_ix ex3 (z_f_17 (z_f_s hj ex3 c_1)) (by decide)) dX4_permanent_25 ?_
          refine W.eq (g2 := F0 m 26 ls [.int (na (j + 1))]) (by rw [z_ic ex3 (z_f_17 (z_f_s hj ex3 c_1)) (by decide)]) ?_
          refine lv_iload_n hx hb dX4_permanent_26 rfl (lv_at hl 1 rfl) ?_
          refine lv_icmp_ne (tgt := 34) hx hb dX4_permanent_27 (by decide) (fun c_3 => ?_) (fun c_3 => ?_)
          · skip
            refine lv_iload_n hx hb dX4_permanent_34 rfl (lv_at hl 2 rfl) ?_
            refine lv_istore_n (lv' := [(2, .int x2), (0, .ref h0), (1, .int p0), (3, .int x3)]) hx hb dX4_permanent_35 rfl hl (by decide) rfl (fun ls hl => ?_)
            refine lv_iinc (v := x3 + 1) (lv' := [(3, .int (x3 + 1)), (2, .int x2), (0, .ref h0), (1, .int p0)]) hx hb dX4_permanent_36 hl (k := 3) rfl (by rfl) (by decide) rfl (fun ls hl => ?_)
            refine lv_goto (tgt := 4) hx hb dX4_permanent_39 (by decide) ?_
            exact ih (j + 1) (x3 + 1) x2 (z_f_s hj ex3 c_1) (by omega) (z_sx ex3) (by subst ex2 ex3; simp only [m_permF, Int32.add_zero, if_pos c_2, if_neg c_3]) ls (lv_sub hl [2, 3, 1, 0] rfl)
          · skip
            refine lv_iload_n hx hb dX4_permanent_30 rfl (lv_at hl 3 rfl) ?_
            refine lv_goto (tgt := 35) hx hb dX4_permanent_31 (by decide) ?_
            refine lv_istore_n (lv' := [(2, .int x3), (0, .ref h0), (1, .int p0), (3, .int x3)]) hx hb dX4_permanent_35 rfl hl (by decide) rfl (fun ls hl => ?_)
            refine lv_iinc (v := x3 + 1) (lv' := [(3, .int (x3 + 1)), (2, .int x3), (0, .ref h0), (1, .int p0)]) hx hb dX4_permanent_36 hl (k := 3) rfl (by rfl) (by decide) rfl (fun ls hl => ?_)
            refine lv_goto (tgt := 4) hx hb dX4_permanent_39 (by decide) ?_
            exact ih (j + 1) (x3 + 1) x3 (z_f_s hj ex3 c_1) (by omega) (z_sx ex3) (by subst ex2 ex3; simp only [m_permF, Int32.add_zero, if_pos c_2, if_pos c_3]) ls (lv_sub hl [2, 3, 1, 0] rfl)
  refine lv_iconst (v := 0) hx hb dX4_permanent_0 (by decide) ?_
  refine lv_istore_n (lv' := [(2, .int 0), (0, .ref h0), (1, .int p0)]) hx hb dX4_permanent_1 rfl hl (by decide) rfl (fun ls hl => ?_)
  refine lv_iconst (v := 1) hx hb dX4_permanent_2 (by decide) ?_
  refine lv_istore_n (lv' := [(3, .int 1), (2, .int 0), (0, .ref h0), (1, .int p0)]) hx hb dX4_permanent_3 rfl hl (by decide) rfl (fun ls hl => ?_)
  exact L4 (16 + 1) 0 1 0 (Nat.zero_le _) (by omega) rfl rfl ls (lv_sub hl [2, 3, 1, 0] rfl)
theorem qd_X4_byHandle : yX4_byHandle.cls = RX4 ∧ yX4_byHandle.cls ≠ "java/lang/invoke/MethodHandle" ∧ yX4_byHandle.cls ≠ "java/lang/invoke/VarHandle" ∧ (parseMethodDescriptor yX4_byHandle.desc).map (fun d => d.parameters.length) = some 1 := by decide +kernel
set_option maxHeartbeats 400000 in
set_option maxRecDepth 100000 in
/-- byHandle -/
theorem c_X4_byHandle (l : Launch) (D : va_G) (cI : ClassId) (h0 : Nat) (g1 : Nat) (g2 : Nat) (g3 : Nat) (g4 : Nat) (g5 : Nat) (g6 : Nat) (code : Int32) (qq : zQ) (wi : Bool) (mo : Bool) (mv : Int32) (fr : Int32) (sh : Int32) (gr : Int32) (cp : Int32) (ra : Int32) (rl : Int32) (ki : zA) (ha : zA) (p0 : Int32) : Met l yX4_byHandle wsX4_byHandle ({ frames := 0, cells := 0, slots := 0, locals := 0 }) (z_Pr D cI [.ref h0, .int p0] [(h0, .inr (4, [.int code, .int (zb qq.1), .int qq.2.1, .int qq.2.2.1, .ref g1, .ref g2, .ref g3, .ref g4, .ref g5, .ref g6, .int (zb qq.2.2.2), .int (zb wi), .int (zb mo), .int mv, .int fr, .int sh, .int gr, .int cp, .int ra, .int rl])), (g4, .inl (cI, 17, .inl ki)), (g6, .inl (cI, 17, .inl ha))]) (z_Ro (some (.int (nI (m_hand ki ha p0))))) 0 0 (fun _ => False) := by
  refine Met.ofW (cc := cX4_byHandle) (maxL := 4) (ret := (some .int)) (by decide) rfl ?_
  intro p e s m args below meth c s₁ B hml hv
  obtain ⟨rfl, hP, hK⟩ := hv
  have hx := B.exec
  have hb := B.bytes
  have hr := B.returns
  have hts := atoms_spec (ws := wsX4_byHandle) B.pre
  have hown : s.vm.findClass RX4 = some m.cls := findClass_of_methodNamed B.named
  have hlocks := B.notSynchronized
  have hP : va_P D vwCl [(h0, .inr (4, [.int code, .int (zb qq.1), .int qq.2.1, .int qq.2.2.1, .ref g1, .ref g2, .ref g3, .ref g4, .ref g5, .ref g6, .int (zb qq.2.2.2), .int (zb wi), .int (zb mo), .int mv, .int fr, .int sh, .int gr, .int cp, .int ra, .int rl])), (g4, .inl (cI, 17, .inl ki)), (g6, .inl (cI, 17, .inl ha))] s.heap := hP
  have hl := lv_entry ([.ref h0, .int p0]) (n := 4) (Nat.le_of_ble_eq_true rfl)
  rw [lg_entry_eq]
  generalize (lg_sl ([.ref h0, .int p0]) ++ List.replicate (4 - (lg_sl ([.ref h0, .int p0])).length) Slot.unset).toArray = ls at hl ⊢
  have hl : lv_has ls 4 [(0, .ref h0), (1, .int p0)] := hl
  have hin4 : ∀ w ∈ wsX40, w ∈ wsX4_byHandle := by decide +kernel
  have hf27 := hts (.fieldLink RX4 27 "SqueezedVolumeModel" "kind" "[I") (by decide +kernel)
  have hf33 := hts (.fieldLink RX4 33 "SqueezedVolumeModel" "handle" "[I") (by decide +kernel)
  have L4 : ∀ (k : Nat) (j : Nat) (x3 : Int32) (x2 : Int32), (j ≤ 16) → (16 + 1 ≤ j + k) → (x3 = nI (j + 1)) → (x2 = nI (m_handF ki ha p0 j)) → ∀ (ls : Array Slot), lv_has ls 4 [(0, .ref h0), (1, .int p0), (2, .int x2), (3, .int x3)] → W p l e ({ frames := 0, cells := 0, slots := 0, locals := 0 }) s m ([.ref h0, .int p0] : List Value).toArray below meth c s.heap [] 0 0 (MQ below (z_Ro (some (.int (nI (m_hand ki ha p0))))) ([.ref h0, .int p0] : List Value).toArray s 0 0 (fun _ => False)) (F0 m 4 ls []) := by
    intro k
    induction k with
    | zero =>
      intro j x3 x2 hj hk ex3 ex2
      exfalso; omega
    | succ k ih =>
      intro j x3 x2 hj hk ex3 ex2
      intro ls hl
      refine lv_iload_n hx hb dX4_byHandle_4 rfl (lv_at hl 3 rfl) ?_
      refine lv_bipush (v := 17) hx hb dX4_byHandle_5 (by decide) ?_
      refine lv_icmp_ge (tgt := 42) hx hb dX4_byHandle_7 (by decide) (fun c_1 => ?_) (fun c_1 => ?_)
      · skip
        refine lv_iload_n hx hb dX4_byHandle_42 rfl (lv_at hl 2 rfl) ?_
        exact W.iret (v := x2) hx hb hr (fun t ht hW => ⟨z_ret (by rw [ex2, z_f_e hj ex3 c_1, m_hand]), ht⟩) (fun _ h => nomatch h) dX4_byHandle_43
      · skip
        refine lv_aload_n hx hb dX4_byHandle_10 rfl (lv_at hl 0 rfl) ?_
        refine va_get (D := D) (ci := 4) (v := .ref g4) (C := RX4) (T := TX4) (N := 20) hx hb hts hin4 hown hK hP 0 rfl rfl 7 (by decide) hf27 (fun _ h9 => h9) rfl dX4_byHandle_11 ?_
        refine lv_iload_n hx hb dX4_byHandle_14 rfl (lv_at hl 3 rfl) ?_
        refine va_iald hx hb hK hP 1 0 rfl rfl (z_ix ex3 (z_f_17 (z_f_s hj ex3 c_1)) (by decide)) dX4_byHandle_15 ?_
        refine W.eq (g2 := F0 m 16 ls [.int (ki (j + 1))]) (by rw [z_ic ex3 (z_f_17 (z_f_s hj ex3 c_1)) (by decide)]) ?_
        refine lv_iconst (v := 1) hx hb dX4_byHandle_16 (by decide) ?_
        refine lv_icmp_ne (tgt := 34) hx hb dX4_byHandle_17 (by decide) (fun c_2 => ?_) (fun c_2 => ?_)
        · skip
          refine lv_iload_n hx hb dX4_byHandle_34 rfl (lv_at hl 2 rfl) ?_
          refine lv_istore_n (lv' := [(2, .int x2), (0, .ref h0), (1, .int p0), (3, .int x3)]) hx hb dX4_byHandle_35 rfl hl (by decide) rfl (fun ls hl => ?_)
          refine lv_iinc (v := x3 + 1) (lv' := [(3, .int (x3 + 1)), (2, .int x2), (0, .ref h0), (1, .int p0)]) hx hb dX4_byHandle_36 hl (k := 3) rfl (by rfl) (by decide) rfl (fun ls hl => ?_)
          refine lv_goto (tgt := 4) hx hb dX4_byHandle_39 (by decide) ?_
          exact ih (j + 1) (x3 + 1) x2 (z_f_s hj ex3 c_1) (by omega) (z_sx ex3) (by subst ex2 ex3; simp only [m_handF, Int32.add_zero, if_neg c_2]) ls (lv_sub hl [2, 3, 1, 0] rfl)
        · skip
          refine lv_aload_n hx hb dX4_byHandle_20 rfl (lv_at hl 0 rfl) ?_
          refine va_get (D := D) (ci := 4) (v := .ref g6) (C := RX4) (T := TX4) (N := 20) hx hb hts hin4 hown hK hP 0 rfl rfl 9 (by decide) hf33 (fun _ h9 => h9) rfl dX4_byHandle_21 ?_
          refine lv_iload_n hx hb dX4_byHandle_24 rfl (lv_at hl 3 rfl) ?_
          refine va_iald hx hb hK hP 2 0 rfl rfl (z_ix ex3 (z_f_17 (z_f_s hj ex3 c_1)) (by decide)) dX4_byHandle_25 ?_
          refine W.eq (g2 := F0 m 26 ls [.int (ha (j + 1))]) (by rw [z_ic ex3 (z_f_17 (z_f_s hj ex3 c_1)) (by decide)]) ?_
          refine lv_iload_n hx hb dX4_byHandle_26 rfl (lv_at hl 1 rfl) ?_
          refine lv_icmp_ne (tgt := 34) hx hb dX4_byHandle_27 (by decide) (fun c_3 => ?_) (fun c_3 => ?_)
          · skip
            refine lv_iload_n hx hb dX4_byHandle_34 rfl (lv_at hl 2 rfl) ?_
            refine lv_istore_n (lv' := [(2, .int x2), (0, .ref h0), (1, .int p0), (3, .int x3)]) hx hb dX4_byHandle_35 rfl hl (by decide) rfl (fun ls hl => ?_)
            refine lv_iinc (v := x3 + 1) (lv' := [(3, .int (x3 + 1)), (2, .int x2), (0, .ref h0), (1, .int p0)]) hx hb dX4_byHandle_36 hl (k := 3) rfl (by rfl) (by decide) rfl (fun ls hl => ?_)
            refine lv_goto (tgt := 4) hx hb dX4_byHandle_39 (by decide) ?_
            exact ih (j + 1) (x3 + 1) x2 (z_f_s hj ex3 c_1) (by omega) (z_sx ex3) (by subst ex2 ex3; simp only [m_handF, Int32.add_zero, if_pos c_2, if_neg c_3]) ls (lv_sub hl [2, 3, 1, 0] rfl)
          · skip
            refine lv_iload_n hx hb dX4_byHandle_30 rfl (lv_at hl 3 rfl) ?_
            refine lv_goto (tgt := 35) hx hb dX4_byHandle_31 (by decide) ?_
            refine lv_istore_n (lv' := [(2, .int x3), (0, .ref h0), (1, .int p0), (3, .int x3)]) hx hb dX4_byHandle_35 rfl hl (by decide) rfl (fun ls hl => ?_)
            refine lv_iinc (v := x3 + 1) (lv' := [(3, .int (x3 + 1)), (2, .int x3), (0, .ref h0), (1, .int p0)]) hx hb dX4_byHandle_36 hl (k := 3) rfl (by rfl) (by decide) rfl (fun ls hl => ?_)
            refine lv_goto (tgt := 4) hx hb dX4_byHandle_39 (by decide) ?_
            exact ih (j + 1) (x3 + 1) x3 (z_f_s hj ex3 c_1) (by omega) (z_sx ex3) (by subst ex2 ex3; simp only [m_handF, Int32.add_zero, if_pos c_2, if_pos c_3]) ls (lv_sub hl [2, 3, 1, 0] rfl)
  refine lv_iconst (v := 0) hx hb dX4_byHandle_0 (by decide) ?_
  refine lv_istore_n (lv' := [(2, .int 0), (0, .ref h0), (1, .int p0)]) hx hb dX4_byHandle_1 rfl hl (by decide) rfl (fun ls hl => ?_)
  refine lv_iconst (v := 1) hx hb dX4_byHandle_2 (by decide) ?_
  refine lv_istore_n (lv' := [(3, .int 1), (2, .int 0), (0, .ref h0), (1, .int p0)]) hx hb dX4_byHandle_3 rfl hl (by decide) rfl (fun ls hl => ?_)
  exact L4 (16 + 1) 0 1 0 (Nat.zero_le _) (by omega) rfl rfl ls (lv_sub hl [2, 3, 1, 0] rfl)
theorem qd_X4_beginOf : yX4_beginOf.cls = RX4 ∧ yX4_beginOf.cls ≠ "java/lang/invoke/MethodHandle" ∧ yX4_beginOf.cls ≠ "java/lang/invoke/VarHandle" ∧ (parseMethodDescriptor yX4_beginOf.desc).map (fun d => d.parameters.length) = some 1 := by decide +kernel
set_option maxHeartbeats 400000 in
set_option maxRecDepth 100000 in
/-- beginOf -/
theorem c_X4_beginOf (l : Launch) (D : va_G) (cI : ClassId) (h0 : Nat) (g1 : Nat) (g2 : Nat) (g3 : Nat) (g4 : Nat) (g5 : Nat) (g6 : Nat) (code : Int32) (qq : zQ) (wi : Bool) (mo : Bool) (mv : Int32) (fr : Int32) (sh : Int32) (gr : Int32) (cp : Int32) (ra : Int32) (rl : Int32) (ow : zA) (p0 : Int32) : Met l yX4_beginOf wsX4_beginOf ({ frames := 0, cells := 0, slots := 0, locals := 0 }) (z_Pr D cI [.ref h0, .int p0] [(h0, .inr (4, [.int code, .int (zb qq.1), .int qq.2.1, .int qq.2.2.1, .ref g1, .ref g2, .ref g3, .ref g4, .ref g5, .ref g6, .int (zb qq.2.2.2), .int (zb wi), .int (zb mo), .int mv, .int fr, .int sh, .int gr, .int cp, .int ra, .int rl])), (g2, .inl (cI, 48, .inl ow))]) (z_Ro (some (.int (m_begF ow p0 48 (-1))))) 0 0 (fun _ => False) := by
  refine Met.ofW (cc := cX4_beginOf) (maxL := 4) (ret := (some .int)) (by decide) rfl ?_
  intro p e s m args below meth c s₁ B hml hv
  obtain ⟨rfl, hP, hK⟩ := hv
  have hx := B.exec
  have hb := B.bytes
  have hr := B.returns
  have hts := atoms_spec (ws := wsX4_beginOf) B.pre
  have hown : s.vm.findClass RX4 = some m.cls := findClass_of_methodNamed B.named
  have hlocks := B.notSynchronized
  have hP : va_P D vwCl [(h0, .inr (4, [.int code, .int (zb qq.1), .int qq.2.1, .int qq.2.2.1, .ref g1, .ref g2, .ref g3, .ref g4, .ref g5, .ref g6, .int (zb qq.2.2.2), .int (zb wi), .int (zb mo), .int mv, .int fr, .int sh, .int gr, .int cp, .int ra, .int rl])), (g2, .inl (cI, 48, .inl ow))] s.heap := hP
  have hl := lv_entry ([.ref h0, .int p0]) (n := 4) (Nat.le_of_ble_eq_true rfl)
  rw [lg_entry_eq]
  generalize (lg_sl ([.ref h0, .int p0]) ++ List.replicate (4 - (lg_sl ([.ref h0, .int p0])).length) Slot.unset).toArray = ls at hl ⊢
  have hl : lv_has ls 4 [(0, .ref h0), (1, .int p0)] := hl
  have hin4 : ∀ w ∈ wsX40, w ∈ wsX4_beginOf := by decide +kernel
  have hf21 := hts (.fieldLink RX4 21 "SqueezedVolumeModel" "owner" "[I") (by decide +kernel)
  have L5 : ∀ (k : Nat) (j : Nat) (x2 : Int32) (x3 : Int32), (j ≤ 48) → (j < k) → (x3 = nI j - 1) → (m_begF ow p0 j x2 = m_begF ow p0 48 (-1)) → ∀ (ls : Array Slot), lv_has ls 4 [(0, .ref h0), (1, .int p0), (2, .int x2), (3, .int x3)] → W p l e ({ frames := 0, cells := 0, slots := 0, locals := 0 }) s m ([.ref h0, .int p0] : List Value).toArray below meth c s.heap [] 0 0 (MQ below (z_Ro (some (.int (m_begF ow p0 48 (-1))))) ([.ref h0, .int p0] : List Value).toArray s 0 0 (fun _ => False)) (F0 m 5 ls []) := by
    intro k
    induction k with
    | zero =>
      intro j x2 x3 hj hk ex3 er
      exfalso; exact absurd hk (Nat.not_lt_zero _)
    | succ k ih =>
      intro j x2 x3 hj hk ex3 er
      intro ls hl
      refine lv_iload_n hx hb dX4_beginOf_5 rfl (lv_at hl 3 rfl) ?_
      refine lv_if_lt (tgt := 31) hx hb dX4_beginOf_6 (by decide) (fun c_1 => ?_) (fun c_1 => ?_)
      · skip
        refine lv_iload_n hx hb dX4_beginOf_31 rfl (lv_at hl 2 rfl) ?_
        exact W.iret (v := x2) hx hb hr (fun t ht hW => ⟨z_ret (by rw [← er, z_down0 (Nat.lt_of_le_of_lt hj (by decide)) ex3 c_1, m_begF]), ht⟩) (fun _ h => nomatch h) dX4_beginOf_32
      · skip
        obtain ⟨i9, ej9, ei9⟩ := z_down (Nat.lt_of_le_of_lt hj (by decide)) ex3 c_1
        refine lv_aload_n hx hb dX4_beginOf_9 rfl (lv_at hl 0 rfl) ?_
        refine va_get (D := D) (ci := 4) (v := .ref g2) (C := RX4) (T := TX4) (N := 20) hx hb hts hin4 hown hK hP 0 rfl rfl 5 (by decide) hf21 (fun _ h9 => h9) rfl dX4_beginOf_10 ?_
        refine lv_iload_n hx hb dX4_beginOf_13 rfl (lv_at hl 3 rfl) ?_
        refine va_iald hx hb hK hP 1 0 rfl rfl (z_ix ei9 (show i9 + 1 ≤ 48 by omega) (by decide)) dX4_beginOf_14 ?_
        refine W.eq (g2 := F0 m 15 ls [.int (ow i9)]) (by rw [z_ic ei9 (show i9 + 1 ≤ 48 by omega) (by decide)]) ?_
        refine lv_iload_n hx hb dX4_beginOf_15 rfl (lv_at hl 1 rfl) ?_
        refine lv_icmp_ne (tgt := 23) hx hb dX4_beginOf_16 (by decide) (fun c_2 => ?_) (fun c_2 => ?_)
        · skip
          refine lv_iload_n hx hb dX4_beginOf_23 rfl (lv_at hl 2 rfl) ?_
          refine lv_istore_n (lv' := [(2, .int x2), (0, .ref h0), (1, .int p0), (3, .int x3)]) hx hb dX4_beginOf_24 rfl hl (by decide) rfl (fun ls hl => ?_)
          refine lv_iinc (v := x3 - 1) (lv' := [(3, .int (x3 - 1)), (2, .int x2), (0, .ref h0), (1, .int p0)]) hx hb dX4_beginOf_25 hl (k := 3) rfl (by exact z_sub1 _) (by decide) rfl (fun ls hl => ?_)
          refine lv_goto (tgt := 5) hx hb dX4_beginOf_28 (by decide) ?_
          exact ih i9 x2 (x3 - 1) (by omega) (by omega) (by rw [ei9]) (by rw [← er, ej9]; simp only [m_begF, ei9, if_neg c_2]) ls (lv_sub hl [2, 3, 1, 0] rfl)
        · skip
          refine lv_iload_n hx hb dX4_beginOf_19 rfl (lv_at hl 3 rfl) ?_
          refine lv_goto (tgt := 24) hx hb dX4_beginOf_20 (by decide) ?_
          refine lv_istore_n (lv' := [(2, .int x3), (0, .ref h0), (1, .int p0), (3, .int x3)]) hx hb dX4_beginOf_24 rfl hl (by decide) rfl (fun ls hl => ?_)
          refine lv_iinc (v := x3 - 1) (lv' := [(3, .int (x3 - 1)), (2, .int x3), (0, .ref h0), (1, .int p0)]) hx hb dX4_beginOf_25 hl (k := 3) rfl (by exact z_sub1 _) (by decide) rfl (fun ls hl => ?_)
          refine lv_goto (tgt := 5) hx hb dX4_beginOf_28 (by decide) ?_
          exact ih i9 x3 (x3 - 1) (by omega) (by omega) (by rw [ei9]) (by rw [← er, ej9]; simp only [m_begF, ei9, if_pos c_2]) ls (lv_sub hl [2, 3, 1, 0] rfl)
  refine lv_iconst (v := -1) hx hb dX4_beginOf_0 (by decide) ?_
  refine lv_istore_n (lv' := [(2, .int (-1)), (0, .ref h0), (1, .int p0)]) hx hb dX4_beginOf_1 rfl hl (by decide) rfl (fun ls hl => ?_)
  refine lv_bipush (v := 47) hx hb dX4_beginOf_2 (by decide) ?_
  refine lv_istore_n (lv' := [(3, .int 47), (2, .int (-1)), (0, .ref h0), (1, .int p0)]) hx hb dX4_beginOf_4 rfl hl (by decide) rfl (fun ls hl => ?_)
  exact L5 49 48 (-1) 47 (Nat.le_refl _) (by decide) rfl rfl ls (lv_sub hl [2, 3, 1, 0] rfl)
theorem qd_X4_runFrom : yX4_runFrom.cls = RX4 ∧ yX4_runFrom.cls ≠ "java/lang/invoke/MethodHandle" ∧ yX4_runFrom.cls ≠ "java/lang/invoke/VarHandle" ∧ (parseMethodDescriptor yX4_runFrom.desc).map (fun d => d.parameters.length) = some 1 := by decide +kernel
set_option maxHeartbeats 400000 in
set_option maxRecDepth 100000 in
/-- runFrom -/
theorem c_X4_runFrom (l : Launch) (D : va_G) (cI : ClassId) (h0 : Nat) (g1 : Nat) (g2 : Nat) (g3 : Nat) (g4 : Nat) (g5 : Nat) (g6 : Nat) (code : Int32) (qq : zQ) (wi : Bool) (mo : Bool) (mv : Int32) (fr : Int32) (sh : Int32) (gr : Int32) (cp : Int32) (ra : Int32) (rl : Int32) (ow : zA) (p0 : Int32) (aa : Nat) (hp : p0 = nI aa) (haa : aa < 48) : Met l yX4_runFrom wsX4_runFrom ({ frames := 0, cells := 0, slots := 0, locals := 0 }) (z_Pr D cI [.ref h0, .int p0] [(h0, .inr (4, [.int code, .int (zb qq.1), .int qq.2.1, .int qq.2.2.1, .ref g1, .ref g2, .ref g3, .ref g4, .ref g5, .ref g6, .int (zb qq.2.2.2), .int (zb wi), .int (zb mo), .int mv, .int fr, .int sh, .int gr, .int cp, .int ra, .int rl])), (g2, .inl (cI, 48, .inl ow))]) (z_Ro (some (.int (nI (m_rf ow aa))))) 0 0 (fun _ => False) := by
  refine Met.ofW (cc := cX4_runFrom) (maxL := 3) (ret := (some .int)) (by decide) rfl ?_
  intro p e s m args below meth c s₁ B hml hv
  obtain ⟨rfl, hP, hK⟩ := hv
  have hx := B.exec
  have hb := B.bytes
  have hr := B.returns
  have hts := atoms_spec (ws := wsX4_runFrom) B.pre
  have hown : s.vm.findClass RX4 = some m.cls := findClass_of_methodNamed B.named
  have hlocks := B.notSynchronized
  have hP : va_P D vwCl [(h0, .inr (4, [.int code, .int (zb qq.1), .int qq.2.1, .int qq.2.2.1, .ref g1, .ref g2, .ref g3, .ref g4, .ref g5, .ref g6, .int (zb qq.2.2.2), .int (zb wi), .int (zb mo), .int mv, .int fr, .int sh, .int gr, .int cp, .int ra, .int rl])), (g2, .inl (cI, 48, .inl ow))] s.heap := hP
  have hl := lv_entry ([.ref h0, .int p0]) (n := 3) (Nat.le_of_ble_eq_true rfl)
  rw [lg_entry_eq]
  generalize (lg_sl ([.ref h0, .int p0]) ++ List.replicate (3 - (lg_sl ([.ref h0, .int p0])).length) Slot.unset).toArray = ls at hl ⊢
  have hl : lv_has ls 3 [(0, .ref h0), (1, .int p0)] := hl
  have hin4 : ∀ w ∈ wsX40, w ∈ wsX4_runFrom := by decide +kernel
  have hf21 := hts (.fieldLink RX4 21 "SqueezedVolumeModel" "owner" "[I") (by decide +kernel)
  have L2 : ∀ (k : Nat) (n9 : Nat) (x2 : Int32), (aa + n9 ≤ 48) → (48 + 1 ≤ aa + n9 + k) → (x2 = nI n9) → (m_rfF ow aa (48 - (aa + n9)) n9 = m_rf ow aa) → ∀ (ls : Array Slot), lv_has ls 3 [(0, .ref h0), (1, .int p0), (2, .int x2)] → W p l e ({ frames := 0, cells := 0, slots := 0, locals := 0 }) s m ([.ref h0, .int p0] : List Value).toArray below meth c s.heap [] 0 0 (MQ below (z_Ro (some (.int (nI (m_rf ow aa))))) ([.ref h0, .int p0] : List Value).toArray s 0 0 (fun _ => False)) (F0 m 2 ls []) := by
    intro k
    induction k with
    | zero =>
      intro n9 x2 hj hk ex2 er
      exfalso; omega
    | succ k ih =>
      intro n9 x2 hj hk ex2 er
      intro ls hl
      refine lv_iload_n hx hb dX4_runFrom_2 rfl (lv_at hl 1 rfl) ?_
      refine lv_iload_n hx hb dX4_runFrom_3 rfl (lv_at hl 2 rfl) ?_
      refine lv_iadd hx hb dX4_runFrom_4 ?_
      refine lv_bipush (v := 48) hx hb dX4_runFrom_5 (by decide) ?_
      refine lv_icmp_ge (tgt := 33) hx hb dX4_runFrom_7 (by decide) (fun c_1 => ?_) (fun c_1 => ?_)
      · skip
        refine lv_iload_n hx hb dX4_runFrom_33 rfl (lv_at hl 2 rfl) ?_
        exact W.iret (v := x2) hx hb hr (fun t ht hW => ⟨z_ret (by rw [ex2, m_rf_e er (z48_e hj (z_pl hp ex2) c_1)]), ht⟩) (fun _ h => nomatch h) dX4_runFrom_34
      · skip
        refine lv_aload_n hx hb dX4_runFrom_10 rfl (lv_at hl 0 rfl) ?_
        refine va_get (D := D) (ci := 4) (v := .ref g2) (C := RX4) (T := TX4) (N := 20) hx hb hts hin4 hown hK hP 0 rfl rfl 5 (by decide) hf21 (fun _ h9 => h9) rfl dX4_runFrom_11 ?_
        refine lv_iload_n hx hb dX4_runFrom_14 rfl (lv_at hl 1 rfl) ?_
        refine lv_iload_n hx hb dX4_runFrom_15 rfl (lv_at hl 2 rfl) ?_
        refine lv_iadd hx hb dX4_runFrom_16 ?_
        refine va_iald hx hb hK hP 1 0 rfl rfl (z_ix (z_pl hp ex2) (z48_s hj (z_pl hp ex2) c_1) (by decide)) dX4_runFrom_17 ?_
        refine W.eq (g2 := F0 m 18 ls [.int (ow (aa + n9))]) (by rw [z_ic (z_pl hp ex2) (z48_s hj (z_pl hp ex2) c_1) (by decide)]) ?_
        refine lv_aload_n hx hb dX4_runFrom_18 rfl (lv_at hl 0 rfl) ?_
        refine va_get (D := D) (ci := 4) (v := .ref g2) (C := RX4) (T := TX4) (N := 20) hx hb hts hin4 hown hK hP 0 rfl rfl 5 (by decide) hf21 (fun _ h9 => h9) rfl dX4_runFrom_19 ?_
        refine lv_iload_n hx hb dX4_runFrom_22 rfl (lv_at hl 1 rfl) ?_
        refine va_iald hx hb hK hP 1 0 rfl rfl (z_ix hp haa (by decide)) dX4_runFrom_23 ?_
        refine W.eq (g2 := F0 m 24 ls [.int (ow aa), .int (ow (aa + n9))]) (by rw [z_ic hp haa (by decide)]) ?_
        refine lv_icmp_ne (tgt := 33) hx hb dX4_runFrom_24 (by decide) (fun c_2 => ?_) (fun c_2 => ?_)
        · skip
          refine lv_iload_n hx hb dX4_runFrom_33 rfl (lv_at hl 2 rfl) ?_
          exact W.iret (v := x2) hx hb hr (fun t ht hW => ⟨z_ret (by rw [ex2, m_rf_f er (z48_s hj (z_pl hp ex2) c_1) c_2]), ht⟩) (fun _ h => nomatch h) dX4_runFrom_34
        · skip
          refine lv_iinc (v := x2 + 1) (lv' := [(2, .int (x2 + 1)), (0, .ref h0), (1, .int p0)]) hx hb dX4_runFrom_27 hl (k := 2) rfl (by rfl) (by decide) rfl (fun ls hl => ?_)
          refine lv_goto (tgt := 2) hx hb dX4_runFrom_30 (by decide) ?_
          exact ih (n9 + 1) (x2 + 1) (z48_s hj (z_pl hp ex2) c_1) (by omega) (z_sx ex2) (m_rf_s er (z48_s hj (z_pl hp ex2) c_1) c_2) ls (lv_sub hl [1, 2, 0] rfl)
  refine lv_iconst (v := 1) hx hb dX4_runFrom_0 (by decide) ?_
  refine lv_istore_n (lv' := [(2, .int 1), (0, .ref h0), (1, .int p0)]) hx hb dX4_runFrom_1 rfl hl (by decide) rfl (fun ls hl => ?_)
  exact L2 49 1 1 (by omega) (by omega) rfl rfl ls (lv_sub hl [1, 2, 0] rfl)
theorem qd_X4_isName : yX4_isName.cls ≠ "java/lang/invoke/MethodHandle" ∧ yX4_isName.cls ≠ "java/lang/invoke/VarHandle" ∧ (parseMethodDescriptor yX4_isName.desc).map (fun d => d.parameters.length) = some 1 := by decide +kernel
set_option maxHeartbeats 400000 in
set_option maxRecDepth 100000 in
/-- isName -/
theorem c_X4_isName (l : Launch) (D : va_G) (cI : ClassId) (p0 : Int32) : Met l yX4_isName wsX4_isName ({ frames := 0, cells := 0, slots := 0, locals := 0 }) (z_Pr D cI [.int p0] []) (z_Ro (some (.int (zb (m_nm p0))))) 0 0 (fun _ => False) := by
  refine Met.ofW (cc := cX4_isName) (maxL := 1) (ret := (some .boolean)) (by decide) rfl ?_
  intro p e s m args below meth c s₁ B hml hv
  obtain ⟨rfl, hP, hK⟩ := hv
  have hx := B.exec
  have hb := B.bytes
  have hr := B.returns
  have hts := atoms_spec (ws := wsX4_isName) B.pre
  have hown : s.vm.findClass RX4 = some m.cls := findClass_of_methodNamed B.named
  have hlocks := B.notSynchronized
  have hP : va_P D vwCl [] s.heap := hP
  have hl := lv_entry ([.int p0]) (n := 1) (Nat.le_of_ble_eq_true rfl)
  rw [lg_entry_eq]
  generalize (lg_sl ([.int p0]) ++ List.replicate (1 - (lg_sl ([.int p0])).length) Slot.unset).toArray = ls at hl ⊢
  have hl : lv_has ls 1 [(0, .int p0)] := hl
  refine lv_iload_n hx hb dX4_isName_0 rfl (lv_at hl 0 rfl) ?_
  refine lv_iconst (v := 1) hx hb dX4_isName_1 (by decide) ?_
  refine lv_icmp_lt (tgt := 16) hx hb dX4_isName_2 (by decide) (fun c_1 => ?_) (fun c_1 => ?_)
  · skip
    refine lv_iconst (v := 0) hx hb dX4_isName_16 (by decide) ?_
    exact W.zret (v := 0) (ty := .boolean) hx hb hr rfl (fun t ht hW => ⟨z_ret (by simp only [m_nm, if_pos c_1] <;> rfl), ht⟩) (fun _ h => nomatch h) dX4_isName_17
  · skip
    refine lv_iload_n hx hb dX4_isName_5 rfl (lv_at hl 0 rfl) ?_
    refine lv_sipush (v := 999) hx hb dX4_isName_6 (by decide) ?_
    refine lv_icmp_gt (tgt := 16) hx hb dX4_isName_9 (by decide) (fun c_2 => ?_) (fun c_2 => ?_)
    · skip
      refine lv_iconst (v := 0) hx hb dX4_isName_16 (by decide) ?_
      exact W.zret (v := 0) (ty := .boolean) hx hb hr rfl (fun t ht hW => ⟨z_ret (by simp only [m_nm, if_neg c_1, if_pos c_2] <;> rfl), ht⟩) (fun _ h => nomatch h) dX4_isName_17
    · skip
      refine lv_iconst (v := 1) hx hb dX4_isName_12 (by decide) ?_
      refine lv_goto (tgt := 17) hx hb dX4_isName_13 (by decide) ?_
      exact W.zret (v := 1) (ty := .boolean) hx hb hr rfl (fun t ht hW => ⟨z_ret (by simp only [m_nm, if_neg c_1, if_neg c_2] <;> rfl), ht⟩) (fun _ h => nomatch h) dX4_isName_17
theorem qd_X4_lay : yX4_lay.cls = RX4 ∧ yX4_lay.cls ≠ "java/lang/invoke/MethodHandle" ∧ yX4_lay.cls ≠ "java/lang/invoke/VarHandle" ∧ (parseMethodDescriptor yX4_lay.desc).map (fun d => d.parameters.length) = some 0 := by decide +kernel
set_option maxHeartbeats 400000 in
set_option maxRecDepth 100000 in
/-- lay -/
theorem c_X4_lay (l : Launch) (D : va_G) (cI : ClassId) (h0 : Nat) (g1 : Nat) (g2 : Nat) (g3 : Nat) (g4 : Nat) (g5 : Nat) (g6 : Nat) (code : Int32) (qq : zQ) (wi : Bool) (mo : Bool) (mv : Int32) (fr : Int32) (sh : Int32) (gr : Int32) (cp : Int32) (ra : Int32) (rl : Int32) (ow : zA) (nx : zA) (sz : Nat) : Met l yX4_lay wsX4_lay ({ frames := 0, cells := 0, slots := 0, locals := 0 }) (z_Pw D cI [.ref h0] [(h0, .inr (4, [.int code, .int (zb qq.1), .int qq.2.1, .int qq.2.2.1, .ref g1, .ref g2, .ref g3, .ref g4, .ref g5, .ref g6, .int (zb qq.2.2.2), .int (zb wi), .int (zb mo), .int mv, .int fr, .int sh, .int gr, .int cp, .int ra, .int rl])), (g2, .inl (cI, 48, .inl ow)), (g3, .inl (cI, 48, .inl nx))] sz) (z_Wo D none [(h0, .inr (4, [.int code, .int (zb qq.1), .int qq.2.1, .int qq.2.2.1, .ref g1, .ref g2, .ref g3, .ref g4, .ref g5, .ref g6, .int (zb qq.2.2.2), .int (zb wi), .int (zb mo), .int mv, .int fr, .int sh, .int gr, .int cp, .int ra, .int rl])), (g2, .inl (cI, 48, .inl ow)), (g3, .inl (cI, 48, .inl (m_cp nx ow)))] (va_A [(h0, .inr (4, [.int code, .int (zb qq.1), .int qq.2.1, .int qq.2.2.1, .ref g1, .ref g2, .ref g3, .ref g4, .ref g5, .ref g6, .int (zb qq.2.2.2), .int (zb wi), .int (zb mo), .int mv, .int fr, .int sh, .int gr, .int cp, .int ra, .int rl])), (g2, .inl (cI, 48, .inl ow)), (g3, .inl (cI, 48, .inl nx))] sz)) 0 0 (va_A [(h0, .inr (4, [.int code, .int (zb qq.1), .int qq.2.1, .int qq.2.2.1, .ref g1, .ref g2, .ref g3, .ref g4, .ref g5, .ref g6, .int (zb qq.2.2.2), .int (zb wi), .int (zb mo), .int mv, .int fr, .int sh, .int gr, .int cp, .int ra, .int rl])), (g2, .inl (cI, 48, .inl ow)), (g3, .inl (cI, 48, .inl nx))] sz) := by
  refine Met.ofW (cc := cX4_lay) (maxL := 2) (ret := none) (by decide) rfl ?_
  intro p e s m args below meth c s₁ B hml hv
  obtain ⟨rfl, hsz, hP, hK, hD0⟩ := hv
  have hx := B.exec
  have hb := B.bytes
  have hr := B.returns
  have hts := atoms_spec (ws := wsX4_lay) B.pre
  have hown : s.vm.findClass RX4 = some m.cls := findClass_of_methodNamed B.named
  have hlocks := B.notSynchronized
  subst hsz
  have hD := hD0.self (sz := s.heap.size)
  generalize hAe : va_A [(h0, .inr (4, [.int code, .int (zb qq.1), .int qq.2.1, .int qq.2.2.1, .ref g1, .ref g2, .ref g3, .ref g4, .ref g5, .ref g6, .int (zb qq.2.2.2), .int (zb wi), .int (zb mo), .int mv, .int fr, .int sh, .int gr, .int cp, .int ra, .int rl])), (g2, .inl (cI, 48, .inl ow)), (g3, .inl (cI, 48, .inl nx))] s.heap.size = A at hD ⊢
  have hA : ∀ q : Nat, s.heap.size ≤ q → A q := fun q h => by rw [← hAe]; exact Or.inr h
  have hS : va_S A s.heap s.heap [] := va_S.rf
  have hP : va_P D vwCl [(h0, .inr (4, [.int code, .int (zb qq.1), .int qq.2.1, .int qq.2.2.1, .ref g1, .ref g2, .ref g3, .ref g4, .ref g5, .ref g6, .int (zb qq.2.2.2), .int (zb wi), .int (zb mo), .int mv, .int fr, .int sh, .int gr, .int cp, .int ra, .int rl])), (g2, .inl (cI, 48, .inl ow)), (g3, .inl (cI, 48, .inl nx))] s.heap := hP
  have hl := lv_entry ([.ref h0]) (n := 2) (Nat.le_of_ble_eq_true rfl)
  rw [lg_entry_eq]
  generalize (lg_sl ([.ref h0]) ++ List.replicate (2 - (lg_sl ([.ref h0])).length) Slot.unset).toArray = ls at hl ⊢
  have hl : lv_has ls 2 [(0, .ref h0)] := hl
  refine z_start hP hS (fun H locs hP hS => ?_)
  have hin4 : ∀ w ∈ wsX40, w ∈ wsX4_lay := by decide +kernel
  have hf24 := hts (.fieldLink RX4 24 "SqueezedVolumeModel" "next" "[I") (by decide +kernel)
  have hf21 := hts (.fieldLink RX4 21 "SqueezedVolumeModel" "owner" "[I") (by decide +kernel)
  have L2 : ∀ (k : Nat) (j : Nat) (x1 : Int32) (nx1 : zA), (j ≤ 48) → (48 + 1 ≤ j + k) → (x1 = nI j) → (nx1 = m_cpF nx ow j) → ∀ (H : Heap) (locs : List Loc) (ls : Array Slot), va_P D vwCl [(h0, .inr (4, [.int code, .int (zb qq.1), .int qq.2.1, .int qq.2.2.1, .ref g1, .ref g2, .ref g3, .ref g4, .ref g5, .ref g6, .int (zb qq.2.2.2), .int (zb wi), .int (zb mo), .int mv, .int fr, .int sh, .int gr, .int cp, .int ra, .int rl])), (g2, .inl (cI, 48, .inl ow)), (g3, .inl (cI, 48, .inl nx1))] H → va_D A [(h0, .inr (4, [.int code, .int (zb qq.1), .int qq.2.1, .int qq.2.2.1, .ref g1, .ref g2, .ref g3, .ref g4, .ref g5, .ref g6, .int (zb qq.2.2.2), .int (zb wi), .int (zb mo), .int mv, .int fr, .int sh, .int gr, .int cp, .int ra, .int rl])), (g2, .inl (cI, 48, .inl ow)), (g3, .inl (cI, 48, .inl nx1))] → va_S A s.heap H locs → lv_has ls 2 [(0, .ref h0), (1, .int x1)] → W p l e ({ frames := 0, cells := 0, slots := 0, locals := 0 }) s m ([.ref h0] : List Value).toArray below meth c H locs 0 0 (MQ below (z_Wo D none [(h0, .inr (4, [.int code, .int (zb qq.1), .int qq.2.1, .int qq.2.2.1, .ref g1, .ref g2, .ref g3, .ref g4, .ref g5, .ref g6, .int (zb qq.2.2.2), .int (zb wi), .int (zb mo), .int mv, .int fr, .int sh, .int gr, .int cp, .int ra, .int rl])), (g2, .inl (cI, 48, .inl ow)), (g3, .inl (cI, 48, .inl (m_cp nx ow)))] A) ([.ref h0] : List Value).toArray s 0 0 A) (F0 m 2 ls []) := by
    intro k
    induction k with
    | zero =>
      intro j x1 nx1 hj hk ex1 ef
      exfalso; omega
    | succ k ih =>
      intro j x1 nx1 hj hk ex1 ef
      intro H locs ls hP hD hS hl
      refine lv_iload_n hx hb dX4_lay_2 rfl (lv_at hl 1 rfl) ?_
      refine lv_bipush (v := 48) hx hb dX4_lay_3 (by decide) ?_
      refine lv_icmp_ge (tgt := 26) hx hb dX4_lay_5 (by decide) (fun c_1 => ?_) (fun c_1 => ?_)
      · skip
        have hE : m_cp nx ow = nx1 := by rw [ef, z48_e hj ex1 c_1]; rfl
        have hPz : va_P D vwCl [(h0, .inr (4, [.int code, .int (zb qq.1), .int qq.2.1, .int qq.2.2.1, .ref g1, .ref g2, .ref g3, .ref g4, .ref g5, .ref g6, .int (zb qq.2.2.2), .int (zb wi), .int (zb mo), .int mv, .int fr, .int sh, .int gr, .int cp, .int ra, .int rl])), (g2, .inl (cI, 48, .inl ow)), (g3, .inl (cI, 48, .inl (m_cp nx ow)))] H := by rw [hE]; exact hP
        exact W.vret hx hb hr (fun t ht hW => ⟨⟨rfl, by rw [ht]; exact hPz⟩, hS.F ht⟩) hS.2.2 dX4_lay_26
      · skip
        refine lv_aload_n hx hb dX4_lay_8 rfl (lv_at hl 0 rfl) ?_
        refine va_get (D := D) (ci := 4) (v := .ref g3) (C := RX4) (T := TX4) (N := 20) hx hb hts hin4 hown hK hP 0 rfl rfl 6 (by decide) hf24 (fun _ h9 => h9) rfl dX4_lay_9 ?_
        refine lv_iload_n hx hb dX4_lay_12 rfl (lv_at hl 1 rfl) ?_
        refine lv_aload_n hx hb dX4_lay_13 rfl (lv_at hl 0 rfl) ?_
        refine va_get (D := D) (ci := 4) (v := .ref g2) (C := RX4) (T := TX4) (N := 20) hx hb hts hin4 hown hK hP 0 rfl rfl 5 (by decide) hf21 (fun _ h9 => h9) rfl dX4_lay_14 ?_
        refine lv_iload_n hx hb dX4_lay_17 rfl (lv_at hl 1 rfl) ?_
        refine va_iald hx hb hK hP 1 0 rfl rfl (z_ix ex1 (z48_s hj ex1 c_1) (by decide)) dX4_lay_18 ?_
        refine W.eq (g2 := F0 m 19 ls [.int (ow j), .int x1, .ref g3]) (by rw [z_ic ex1 (z48_s hj ex1 c_1) (by decide)]) ?_
        refine va_iast hx hb hK hP hD hS 2 0 rfl rfl (z_ix ex1 (z48_s hj ex1 c_1) (by decide)) dX4_lay_19 (fun H locs hP hD hS => ?_)
        rw [z_ic ex1 (z48_s hj ex1 c_1) (by decide)] at hP hD
        have hP : va_P D vwCl [(h0, .inr (4, [.int code, .int (zb qq.1), .int qq.2.1, .int qq.2.2.1, .ref g1, .ref g2, .ref g3, .ref g4, .ref g5, .ref g6, .int (zb qq.2.2.2), .int (zb wi), .int (zb mo), .int mv, .int fr, .int sh, .int gr, .int cp, .int ra, .int rl])), (g2, .inl (cI, 48, .inl ow)), (g3, .inl (cI, 48, .inl (upd nx1 j (ow j))))] H := hP
        have hD : va_D A [(h0, .inr (4, [.int code, .int (zb qq.1), .int qq.2.1, .int qq.2.2.1, .ref g1, .ref g2, .ref g3, .ref g4, .ref g5, .ref g6, .int (zb qq.2.2.2), .int (zb wi), .int (zb mo), .int mv, .int fr, .int sh, .int gr, .int cp, .int ra, .int rl])), (g2, .inl (cI, 48, .inl ow)), (g3, .inl (cI, 48, .inl (upd nx1 j (ow j))))] := hD
        refine lv_iinc (v := x1 + 1) (lv' := [(1, .int (x1 + 1)), (0, .ref h0)]) hx hb dX4_lay_20 hl (k := 1) rfl (by rfl) (by decide) rfl (fun ls hl => ?_)
        refine lv_goto (tgt := 2) hx hb dX4_lay_23 (by decide) ?_
        exact ih (j + 1) (x1 + 1) (upd nx1 j (ow j)) (z48_s hj ex1 c_1) (by omega) (by rw [ex1, nI_succ]) (by rw [ef]; exact m_cpF_s) H locs ls hP hD hS (lv_sub hl [1, 0] rfl)
  refine lv_iconst (v := 0) hx hb dX4_lay_0 (by decide) ?_
  refine lv_istore_n (lv' := [(1, .int 0), (0, .ref h0)]) hx hb dX4_lay_1 rfl hl (by decide) rfl (fun ls hl => ?_)
  exact L2 (48 + 1) 0 0 nx (Nat.zero_le _) (by omega) nI_0.symm (m_cpF_0 _ _).symm H locs ls hP hD hS (lv_sub hl [1, 0] rfl)
