theorem qd_X4_put : yX4_put.cls = RX4 ∧ yX4_put.cls ≠ "java/lang/invoke/MethodHandle" ∧ yX4_put.cls ≠ "java/lang/invoke/VarHandle" ∧ (parseMethodDescriptor yX4_put.desc).map (fun d => d.parameters.length) = some 3 := by decide +kernel
set_option maxHeartbeats 400000 in
set_option maxRecDepth 100000 in
/-- put -/
theorem c_X4_put (l : Launch) (D : va_G) (cI : ClassId) (h0 : Nat) (g1 : Nat) (g2 : Nat) (g3 : Nat) (g4 : Nat) (g5 : Nat) (g6 : Nat) (code : Int32) (qq : zQ) (wi : Bool) (mo : Bool) (mv : Int32) (fr : Int32) (sh : Int32) (gr : Int32) (cp : Int32) (ra : Int32) (rl : Int32) (ints : zA) (ow : zA) (ki : zA) (ha : zA) (p0 : Int32) (p1 : Int32) (p2 : Int32) (sz : Nat) : Met l yX4_put wsX4_put ({ frames := 1, cells := 0, slots := 0, locals := 23 }) (z_Pw D cI [.ref h0, .int p0, .int p1, .int p2] [(h0, .inr (4, [.int code, .int (zb qq.1), .int qq.2.1, .int qq.2.2.1, .ref g1, .ref g2, .ref g3, .ref g4, .ref g5, .ref g6, .int (zb qq.2.2.2), .int (zb wi), .int (zb mo), .int mv, .int fr, .int sh, .int gr, .int cp, .int ra, .int rl])), (g1, .inl (cI, 48, .inl ints)), (g2, .inl (cI, 48, .inl ow)), (g4, .inl (cI, 17, .inl ki)), (g6, .inl (cI, 17, .inl ha))] sz) (z_Wo D (some (.int ((m_put qq wi ints ow ki ha p0 p1 p2).1))) [(h0, .inr (4, [.int ((m_put qq wi ints ow ki ha p0 p1 p2).2.1), .int (zb ((m_put qq wi ints ow ki ha p0 p1 p2).2.2.1).1), .int (((m_put qq wi ints ow ki ha p0 p1 p2).2.2.1).2.1), .int (((m_put qq wi ints ow ki ha p0 p1 p2).2.2.1).2.2.1), .ref g1, .ref g2, .ref g3, .ref g4, .ref g5, .ref g6, .int (zb ((m_put qq wi ints ow ki ha p0 p1 p2).2.2.1).2.2.2), .int (zb wi), .int (zb mo), .int mv, .int fr, .int sh, .int gr, .int cp, .int ra, .int rl])), (g1, .inl (cI, 48, .inl ((m_put qq wi ints ow ki ha p0 p1 p2).2.2.2))), (g2, .inl (cI, 48, .inl ow)), (g4, .inl (cI, 17, .inl ki)), (g6, .inl (cI, 17, .inl ha))] (va_A [(h0, .inr (4, [.int code, .int (zb qq.1), .int qq.2.1, .int qq.2.2.1, .ref g1, .ref g2, .ref g3, .ref g4, .ref g5, .ref g6, .int (zb qq.2.2.2), .int (zb wi), .int (zb mo), .int mv, .int fr, .int sh, .int gr, .int cp, .int ra, .int rl])), (g1, .inl (cI, 48, .inl ints)), (g2, .inl (cI, 48, .inl ow)), (g4, .inl (cI, 17, .inl ki)), (g6, .inl (cI, 17, .inl ha))] sz)) 0 0 (va_A [(h0, .inr (4, [.int code, .int (zb qq.1), .int qq.2.1, .int qq.2.2.1, .ref g1, .ref g2, .ref g3, .ref g4, .ref g5, .ref g6, .int (zb qq.2.2.2), .int (zb wi), .int (zb mo), .int mv, .int fr, .int sh, .int gr, .int cp, .int ra, .int rl])), (g1, .inl (cI, 48, .inl ints)), (g2, .inl (cI, 48, .inl ow)), (g4, .inl (cI, 17, .inl ki)), (g6, .inl (cI, 17, .inl ha))] sz) := by
  refine Met.ofW (cc := cX4_put) (maxL := 5) (ret := (some .int)) (by decide) rfl ?_
  intro p e s m args below meth c s₁ B hml hv
  obtain ⟨rfl, hsz, hP, hK, hD0⟩ := hv
  have hx := B.exec
  have hb := B.bytes
  have hr := B.returns
  have hts := atoms_spec (ws := wsX4_put) B.pre
  have hown : s.vm.findClass RX4 = some m.cls := findClass_of_methodNamed B.named
  have hlocks := B.notSynchronized
  subst hsz
  have hD := hD0.self (sz := s.heap.size)
  generalize hAe : va_A [(h0, .inr (4, [.int code, .int (zb qq.1), .int qq.2.1, .int qq.2.2.1, .ref g1, .ref g2, .ref g3, .ref g4, .ref g5, .ref g6, .int (zb qq.2.2.2), .int (zb wi), .int (zb mo), .int mv, .int fr, .int sh, .int gr, .int cp, .int ra, .int rl])), (g1, .inl (cI, 48, .inl ints)), (g2, .inl (cI, 48, .inl ow)), (g4, .inl (cI, 17, .inl ki)), (g6, .inl (cI, 17, .inl ha))] s.heap.size = A at hD ⊢
  have hA : ∀ q : Nat, s.heap.size ≤ q → A q := fun q h => by rw [← hAe]; exact Or.inr h
  have hS : va_S A s.heap s.heap [] := va_S.rf
  have hP : va_P D vwCl [(h0, .inr (4, [.int code, .int (zb qq.1), .int qq.2.1, .int qq.2.2.1, .ref g1, .ref g2, .ref g3, .ref g4, .ref g5, .ref g6, .int (zb qq.2.2.2), .int (zb wi), .int (zb mo), .int mv, .int fr, .int sh, .int gr, .int cp, .int ra, .int rl])), (g1, .inl (cI, 48, .inl ints)), (g2, .inl (cI, 48, .inl ow)), (g4, .inl (cI, 17, .inl ki)), (g6, .inl (cI, 17, .inl ha))] s.heap := hP
  have hl := lv_entry ([.ref h0, .int p0, .int p1, .int p2]) (n := 5) (Nat.le_of_ble_eq_true rfl)
  rw [lg_entry_eq]
  generalize (lg_sl ([.ref h0, .int p0, .int p1, .int p2]) ++ List.replicate (5 - (lg_sl ([.ref h0, .int p0, .int p1, .int p2])).length) Slot.unset).toArray = ls at hl ⊢
  have hl : lv_has ls 5 [(0, .ref h0), (1, .int p0), (2, .int p1), (3, .int p2)] := hl
  refine z_start hP hS (fun H locs hP hS => ?_)
  have hin4 : ∀ w ∈ wsX40, w ∈ wsX4_put := by decide +kernel
  have hf7 := hts (.fieldLink RX4 7 "SqueezedVolumeModel" "on" "Z") (by decide +kernel)
  have hf36 := hts (.fieldLink RX4 36 "SqueezedVolumeModel" "code" "I") (by decide +kernel)
  have hf17 := hts (.fieldLink RX4 17 "SqueezedVolumeModel" "ints" "[I") (by decide +kernel)
  refine lv_aload_n hx hb dX4_put_0 rfl (lv_at hl 0 rfl) ?_
  refine va_get (D := D) (ci := 4) (v := .int (zb qq.1)) (C := RX4) (T := TX4) (N := 20) hx hb hts hin4 hown hK hP 0 rfl rfl 1 (by decide) hf7 (fun _ h9 => h9) rfl dX4_put_1 ?_
  refine lv_if_eq (tgt := 15) hx hb dX4_put_4 (by decide) (fun c_1 => ?_) (fun c_1 => ?_)
  · skip
    refine lv_iconst (v := 0) hx hb dX4_put_15 (by decide) ?_
    refine lv_istore (lv' := [(4, .int 0), (0, .ref h0), (1, .int p0), (2, .int p1), (3, .int p2)]) hx hb dX4_put_16 hl (by decide) rfl (fun ls hl => ?_)
    refine lv_aload_n hx hb dX4_put_18 rfl (lv_at hl 1 rfl) ?_
    refine lv_aload_n hx hb dX4_put_19 rfl (lv_at hl 1 rfl) ?_
    refine va_get (D := D) (ci := 4) (v := .int (zb qq.1)) (C := RX4) (T := TX4) (N := 20) hx hb hts hin4 hown hK hP 0 rfl rfl 1 (by decide) hf7 (fun _ h9 => h9) rfl dX4_put_20 ?_
    refine lv_if_ne (tgt := 30) hx hb dX4_put_23 (by decide) (fun c_2 => ?_) (fun c_2 => ?_)
    · skip
      exact absurd c_1 c_2
    · skip
      refine lv_iconst (v := 1) hx hb dX4_put_26 (by decide) ?_
      refine lv_goto (tgt := 58) hx hb dX4_put_27 (by decide) ?_
      refine va_put (D := D) (ci := 4) (v := .int 1) (ty := .int) (C := RX4) (T := TX4) (N := 20) hx hb hts hin4 tyX4 tyX4_ok nmX4 hown hK hP hD hS 0 rfl rfl 0 (by decide) hf36 (fun _ h9 => h9) rfl (by decide +kernel) rfl rfl (Nat.le_of_ble_eq_true rfl) dX4_put_58 (fun H locs hP hD hS => ?_)
      have hP : va_P D vwCl [(h0, .inr (4, [.int 1, .int (zb qq.1), .int qq.2.1, .int qq.2.2.1, .ref g1, .ref g2, .ref g3, .ref g4, .ref g5, .ref g6, .int (zb qq.2.2.2), .int (zb wi), .int (zb mo), .int mv, .int fr, .int sh, .int gr, .int cp, .int ra, .int rl])), (g1, .inl (cI, 48, .inl ints)), (g2, .inl (cI, 48, .inl ow)), (g4, .inl (cI, 17, .inl ki)), (g6, .inl (cI, 17, .inl ha))] H := hP
      have hD : va_D A [(h0, .inr (4, [.int 1, .int (zb qq.1), .int qq.2.1, .int qq.2.2.1, .ref g1, .ref g2, .ref g3, .ref g4, .ref g5, .ref g6, .int (zb qq.2.2.2), .int (zb wi), .int (zb mo), .int mv, .int fr, .int sh, .int gr, .int cp, .int ra, .int rl])), (g1, .inl (cI, 48, .inl ints)), (g2, .inl (cI, 48, .inl ow)), (g4, .inl (cI, 17, .inl ki)), (g6, .inl (cI, 17, .inl ha))] := hD
      refine lv_aload_n hx hb dX4_put_61 rfl (lv_at hl 1 rfl) ?_
      refine va_get (D := D) (ci := 4) (v := .int 1) (C := RX4) (T := TX4) (N := 20) hx hb hts hin4 hown hK hP 0 rfl rfl 0 (by decide) hf36 (fun _ h9 => h9) rfl dX4_put_62 ?_
      refine lv_if_le (tgt := 70) hx hb dX4_put_65 (by decide) (fun c_3 => ?_) (fun c_3 => ?_)
      · skip
        exact absurd c_3 (by decide)
      · skip
        refine lv_iconst (v := 0) hx hb dX4_put_68 (by decide) ?_
        have hE : m_put qq wi ints ow ki ha p0 p1 p2 = (0, 1, qq, ints) := by simp only [m_put, if_pos (z_b0 c_1)] <;> rfl
        have hPz : va_P D vwCl [(h0, .inr (4, [.int ((m_put qq wi ints ow ki ha p0 p1 p2).2.1), .int (zb ((m_put qq wi ints ow ki ha p0 p1 p2).2.2.1).1), .int (((m_put qq wi ints ow ki ha p0 p1 p2).2.2.1).2.1), .int (((m_put qq wi ints ow ki ha p0 p1 p2).2.2.1).2.2.1), .ref g1, .ref g2, .ref g3, .ref g4, .ref g5, .ref g6, .int (zb ((m_put qq wi ints ow ki ha p0 p1 p2).2.2.1).2.2.2), .int (zb wi), .int (zb mo), .int mv, .int fr, .int sh, .int gr, .int cp, .int ra, .int rl])), (g1, .inl (cI, 48, .inl ((m_put qq wi ints ow ki ha p0 p1 p2).2.2.2))), (g2, .inl (cI, 48, .inl ow)), (g4, .inl (cI, 17, .inl ki)), (g6, .inl (cI, 17, .inl ha))] H := by rw [hE]; exact hP
        have hRr : 0 = (m_put qq wi ints ow ki ha p0 p1 p2).1 := by first | (rw [hE]; done) | (rw [hE]; rfl)
        exact W.iret (v := 0) hx hb hr (fun t ht hW => ⟨⟨z_ret hRr, by rw [ht]; exact hPz⟩, hS.F ht⟩) hS.2.2 dX4_put_69
  · skip
    refine lv_aload_n hx hb dX4_put_7 rfl (lv_at hl 0 rfl) ?_
    refine lv_iload_n hx hb dX4_put_8 rfl (lv_at hl 1 rfl) ?_
    refine z_callRi (va_runV (As := [.int p0]) (rest := []) ⟨hx, hb, hml, hown, hts⟩ (c_X4_byHandle l D cI h0 g1 g2 g3 g4 g5 g6 code qq wi mo mv fr sh gr cp ra rl ki ha p0) (cwV 1 hts gX4_put_X4_byHandle rfl rfl rfl qd_X4_byHandle ⟨Nat.le_of_ble_eq_true rfl, Nat.le_of_ble_eq_true rfl⟩) ⟨z_Pr_blind, va_recv hK hP (ci := 4) (q0 := 0) rfl rfl, fun U hU hW => ⟨rfl, by rw [hU]; exact hP.sub (ws' := [(h0, .inr (4, [.int code, .int (zb qq.1), .int qq.2.1, .int qq.2.2.1, .ref g1, .ref g2, .ref g3, .ref g4, .ref g5, .ref g6, .int (zb qq.2.2.2), .int (zb wi), .int (zb mo), .int mv, .int fr, .int sh, .int gr, .int cp, .int ra, .int rl])), (g4, .inl (cI, 17, .inl ki)), (g6, .inl (cI, 17, .inl ha))]) [0, 3, 4] rfl, va_K.moved hW.alike hK⟩⟩ rfl rfl hl.1 rfl (lv_room (Nat.le_of_ble_eq_true rfl)) dX4_put_9 ⟨Nat.le_of_ble_eq_true rfl, Nat.le_of_ble_eq_true rfl⟩) ?_
    refine lv_goto (tgt := 16) hx hb dX4_put_12 (by decide) ?_
    refine lv_istore (lv' := [(4, .int (nI (m_hand ki ha p0))), (0, .ref h0), (1, .int p0), (2, .int p1), (3, .int p2)]) hx hb dX4_put_16 hl (by decide) rfl (fun ls hl => ?_)
    refine lv_aload_n hx hb dX4_put_18 rfl (lv_at hl 1 rfl) ?_
    refine lv_aload_n hx hb dX4_put_19 rfl (lv_at hl 1 rfl) ?_
    refine va_get (D := D) (ci := 4) (v := .int (zb qq.1)) (C := RX4) (T := TX4) (N := 20) hx hb hts hin4 hown hK hP 0 rfl rfl 1 (by decide) hf7 (fun _ h9 => h9) rfl dX4_put_20 ?_
    refine lv_if_ne (tgt := 30) hx hb dX4_put_23 (by decide) (fun c_4 => ?_) (fun c_4 => ?_)
    · skip
      refine lv_iload hx hb dX4_put_30 (lv_at hl 0 rfl) ?_
      refine lv_if_ne (tgt := 39) hx hb dX4_put_32 (by decide) (fun c_5 => ?_) (fun c_5 => ?_)
      · skip
        refine lv_iload_n hx hb dX4_put_39 rfl (lv_at hl 3 rfl) ?_
        refine lv_if_lt (tgt := 53) hx hb dX4_put_40 (by decide) (fun c_6 => ?_) (fun c_6 => ?_)
        · skip
          refine lv_iconst (v := 3) hx hb dX4_put_53 (by decide) ?_
          refine lv_goto (tgt := 58) hx hb dX4_put_54 (by decide) ?_
          refine va_put (D := D) (ci := 4) (v := .int 3) (ty := .int) (C := RX4) (T := TX4) (N := 20) hx hb hts hin4 tyX4 tyX4_ok nmX4 hown hK hP hD hS 0 rfl rfl 0 (by decide) hf36 (fun _ h9 => h9) rfl (by decide +kernel) rfl rfl (Nat.le_of_ble_eq_true rfl) dX4_put_58 (fun H locs hP hD hS => ?_)
          have hP : va_P D vwCl [(h0, .inr (4, [.int 3, .int (zb qq.1), .int qq.2.1, .int qq.2.2.1, .ref g1, .ref g2, .ref g3, .ref g4, .ref g5, .ref g6, .int (zb qq.2.2.2), .int (zb wi), .int (zb mo), .int mv, .int fr, .int sh, .int gr, .int cp, .int ra, .int rl])), (g1, .inl (cI, 48, .inl ints)), (g2, .inl (cI, 48, .inl ow)), (g4, .inl (cI, 17, .inl ki)), (g6, .inl (cI, 17, .inl ha))] H := hP
          have hD : va_D A [(h0, .inr (4, [.int 3, .int (zb qq.1), .int qq.2.1, .int qq.2.2.1, .ref g1, .ref g2, .ref g3, .ref g4, .ref g5, .ref g6, .int (zb qq.2.2.2), .int (zb wi), .int (zb mo), .int mv, .int fr, .int sh, .int gr, .int cp, .int ra, .int rl])), (g1, .inl (cI, 48, .inl ints)), (g2, .inl (cI, 48, .inl ow)), (g4, .inl (cI, 17, .inl ki)), (g6, .inl (cI, 17, .inl ha))] := hD
          refine lv_aload_n hx hb dX4_put_61 rfl (lv_at hl 1 rfl) ?_
          refine va_get (D := D) (ci := 4) (v := .int 3) (C := RX4) (T := TX4) (N := 20) hx hb hts hin4 hown hK hP 0 rfl rfl 0 (by decide) hf36 (fun _ h9 => h9) rfl dX4_put_62 ?_
          refine lv_if_le (tgt := 70) hx hb dX4_put_65 (by decide) (fun c_7 => ?_) (fun c_7 => ?_)
          · skip
            exact absurd c_7 (by decide)
          · skip
            refine lv_iconst (v := 0) hx hb dX4_put_68 (by decide) ?_
            have hE : m_put qq wi ints ow ki ha p0 p1 p2 = (0, 3, qq, ints) := by simp only [m_put, if_neg (z_b1f c_1), if_neg c_5, if_pos c_6] <;> rfl
            have hPz : va_P D vwCl [(h0, .inr (4, [.int ((m_put qq wi ints ow ki ha p0 p1 p2).2.1), .int (zb ((m_put qq wi ints ow ki ha p0 p1 p2).2.2.1).1), .int (((m_put qq wi ints ow ki ha p0 p1 p2).2.2.1).2.1), .int (((m_put qq wi ints ow ki ha p0 p1 p2).2.2.1).2.2.1), .ref g1, .ref g2, .ref g3, .ref g4, .ref g5, .ref g6, .int (zb ((m_put qq wi ints ow ki ha p0 p1 p2).2.2.1).2.2.2), .int (zb wi), .int (zb mo), .int mv, .int fr, .int sh, .int gr, .int cp, .int ra, .int rl])), (g1, .inl (cI, 48, .inl ((m_put qq wi ints ow ki ha p0 p1 p2).2.2.2))), (g2, .inl (cI, 48, .inl ow)), (g4, .inl (cI, 17, .inl ki)), (g6, .inl (cI, 17, .inl ha))] H := by rw [hE]; exact hP
            have hRr : 0 = (m_put qq wi ints ow ki ha p0 p1 p2).1 := by first | (rw [hE]; done) | (rw [hE]; rfl)
            exact W.iret (v := 0) hx hb hr (fun t ht hW => ⟨⟨z_ret hRr, by rw [ht]; exact hPz⟩, hS.F ht⟩) hS.2.2 dX4_put_69
        · skip
          refine lv_iload_n hx hb dX4_put_43 rfl (lv_at hl 3 rfl) ?_
          refine lv_aload_n hx hb dX4_put_44 rfl (lv_at hl 1 rfl) ?_
          refine lv_iload hx hb dX4_put_45 (lv_at hl 0 rfl) ?_
          refine z_callRi (va_runV (As := [.int (nI (m_hand ki ha p0))]) (rest := [.int p1, .ref h0]) ⟨hx, hb, hml, hown, hts⟩ (c_X4_lengthOf l D cI h0 g1 g2 g3 g4 g5 g6 code qq wi mo mv fr sh gr cp ra rl ow (nI (m_hand ki ha p0))) (cwV 1 hts gX4_put_X4_lengthOf rfl rfl rfl qd_X4_lengthOf ⟨Nat.le_of_ble_eq_true rfl, Nat.le_of_ble_eq_true rfl⟩) ⟨z_Pr_blind, va_recv hK hP (ci := 4) (q0 := 0) rfl rfl, fun U hU hW => ⟨rfl, by rw [hU]; exact hP.sub (ws' := [(h0, .inr (4, [.int code, .int (zb qq.1), .int qq.2.1, .int qq.2.2.1, .ref g1, .ref g2, .ref g3, .ref g4, .ref g5, .ref g6, .int (zb qq.2.2.2), .int (zb wi), .int (zb mo), .int mv, .int fr, .int sh, .int gr, .int cp, .int ra, .int rl])), (g2, .inl (cI, 48, .inl ow))]) [0, 2] rfl, va_K.moved hW.alike hK⟩⟩ rfl rfl hl.1 rfl (lv_room (Nat.le_of_ble_eq_true rfl)) dX4_put_47 ⟨Nat.le_of_ble_eq_true rfl, Nat.le_of_ble_eq_true rfl⟩) ?_
          refine lv_icmp_lt (tgt := 57) hx hb dX4_put_50 (by decide) (fun c_8 => ?_) (fun c_8 => ?_)
          · skip
            refine lv_iconst (v := 0) hx hb dX4_put_57 (by decide) ?_
            refine va_put (D := D) (ci := 4) (v := .int 0) (ty := .int) (C := RX4) (T := TX4) (N := 20) hx hb hts hin4 tyX4 tyX4_ok nmX4 hown hK hP hD hS 0 rfl rfl 0 (by decide) hf36 (fun _ h9 => h9) rfl (by decide +kernel) rfl rfl (Nat.le_of_ble_eq_true rfl) dX4_put_58 (fun H locs hP hD hS => ?_)
            have hP : va_P D vwCl [(h0, .inr (4, [.int 0, .int (zb qq.1), .int qq.2.1, .int qq.2.2.1, .ref g1, .ref g2, .ref g3, .ref g4, .ref g5, .ref g6, .int (zb qq.2.2.2), .int (zb wi), .int (zb mo), .int mv, .int fr, .int sh, .int gr, .int cp, .int ra, .int rl])), (g1, .inl (cI, 48, .inl ints)), (g2, .inl (cI, 48, .inl ow)), (g4, .inl (cI, 17, .inl ki)), (g6, .inl (cI, 17, .inl ha))] H := hP
            have hD : va_D A [(h0, .inr (4, [.int 0, .int (zb qq.1), .int qq.2.1, .int qq.2.2.1, .ref g1, .ref g2, .ref g3, .ref g4, .ref g5, .ref g6, .int (zb qq.2.2.2), .int (zb wi), .int (zb mo), .int mv, .int fr, .int sh, .int gr, .int cp, .int ra, .int rl])), (g1, .inl (cI, 48, .inl ints)), (g2, .inl (cI, 48, .inl ow)), (g4, .inl (cI, 17, .inl ki)), (g6, .inl (cI, 17, .inl ha))] := hD
            refine lv_aload_n hx hb dX4_put_61 rfl (lv_at hl 1 rfl) ?_
            refine va_get (D := D) (ci := 4) (v := .int 0) (C := RX4) (T := TX4) (N := 20) hx hb hts hin4 hown hK hP 0 rfl rfl 0 (by decide) hf36 (fun _ h9 => h9) rfl dX4_put_62 ?_
            refine lv_if_le (tgt := 70) hx hb dX4_put_65 (by decide) (fun c_9 => ?_) (fun c_9 => ?_)
            · skip
              refine lv_aload_n hx hb dX4_put_70 rfl (lv_at hl 1 rfl) ?_
              have hPc : va_P D vwCl [(h0, .inr (4, [.int 0, .int (zb qq.1), .int qq.2.1, .int qq.2.2.1, .ref g1, .ref g2, .ref g3, .ref g4, .ref g5, .ref g6, .int (zb qq.2.2.2), .int (zb wi), .int (zb mo), .int mv, .int fr, .int sh, .int gr, .int cp, .int ra, .int rl]))] H := hP.sub [0] rfl
              have hDc : va_D A [(h0, .inr (4, [.int 0, .int (zb qq.1), .int qq.2.1, .int qq.2.2.1, .ref g1, .ref g2, .ref g3, .ref g4, .ref g5, .ref g6, .int (zb qq.2.2.2), .int (zb wi), .int (zb mo), .int mv, .int fr, .int sh, .int gr, .int cp, .int ra, .int rl]))] := hD.sub [0] (by decide) rfl
              refine z_callWi (ws' := [(h0, .inr (4, [.int 0, .int (zb ((m_write qq wi).2).1), .int (((m_write qq wi).2).2.1), .int (((m_write qq wi).2).2.2.1), .ref g1, .ref g2, .ref g3, .ref g4, .ref g5, .ref g6, .int (zb ((m_write qq wi).2).2.2.2), .int (zb wi), .int (zb mo), .int mv, .int fr, .int sh, .int gr, .int cp, .int ra, .int rl])), (g1, .inl (cI, 48, .inl ints)), (g2, .inl (cI, 48, .inl ow)), (g4, .inl (cI, 17, .inl ki)), (g6, .inl (cI, 17, .inl ha))]) [0] [1, 2, 3, 4] [(g1, .inl (cI, 48, .inl ints)), (g2, .inl (cI, 48, .inl ow)), (g4, .inl (cI, 17, .inl ki)), (g6, .inl (cI, 17, .inl ha))] [h0, g1, g2, g4, g6] (va_runV (As := []) (rest := []) ⟨hx, hb, hml, hown, hts⟩ (c_X4_write l D cI h0 g1 g2 g3 g4 g5 g6 0 qq wi mo mv fr sh gr cp ra rl H.size) (cwV 0 hts gX4_put_X4_write rfl rfl rfl qd_X4_write ⟨Nat.le_of_ble_eq_true rfl, Nat.le_of_ble_eq_true rfl⟩) ⟨z_Pw_blind, va_recv hK hP (ci := 4) (q0 := 0) rfl rfl, fun U hU hW => ⟨rfl, by rw [hU], by rw [hU]; exact hPc, va_K.moved hW.alike hK, hDc.weaken (fun _ _ _ _ => trivial)⟩⟩ rfl rfl hl.1 rfl (lv_room (Nat.le_of_ble_eq_true rfl)) dX4_put_71 ⟨Nat.le_of_ble_eq_true rfl, Nat.le_of_ble_eq_true rfl⟩) hP hD hS hA ⟨rfl, rfl, rfl, rfl, rfl, rfl, rfl⟩ (fun H locs hP hD hS => ?_)
              refine lv_if_ne (tgt := 79) hx hb dX4_put_74 (by decide) (fun c_10 => ?_) (fun c_10 => ?_)
              · skip
                refine lv_aload_n hx hb dX4_put_79 rfl (lv_at hl 1 rfl) ?_
                refine va_get (D := D) (ci := 4) (v := .ref g1) (C := RX4) (T := TX4) (N := 20) hx hb hts hin4 hown hK hP 0 rfl rfl 4 (by decide) hf17 (fun _ h9 => h9) rfl dX4_put_80 ?_
                refine lv_aload_n hx hb dX4_put_83 rfl (lv_at hl 1 rfl) ?_
                refine lv_iload hx hb dX4_put_84 (lv_at hl 0 rfl) ?_
                refine z_callRi (va_runV (As := [.int (nI (m_hand ki ha p0))]) (rest := [.ref g1]) ⟨hx, hb, hml, hown, hts⟩ (c_X4_beginOf l D cI h0 g1 g2 g3 g4 g5 g6 0 ((m_write qq wi).2) wi mo mv fr sh gr cp ra rl ow (nI (m_hand ki ha p0))) (cwV 1 hts gX4_put_X4_beginOf rfl rfl rfl qd_X4_beginOf ⟨Nat.le_of_ble_eq_true rfl, Nat.le_of_ble_eq_true rfl⟩) ⟨z_Pr_blind, va_recv hK hP (ci := 4) (q0 := 0) rfl rfl, fun U hU hW => ⟨rfl, by rw [hU]; exact hP.sub (ws' := [(h0, .inr (4, [.int 0, .int (zb ((m_write qq wi).2).1), .int (((m_write qq wi).2).2.1), .int (((m_write qq wi).2).2.2.1), .ref g1, .ref g2, .ref g3, .ref g4, .ref g5, .ref g6, .int (zb ((m_write qq wi).2).2.2.2), .int (zb wi), .int (zb mo), .int mv, .int fr, .int sh, .int gr, .int cp, .int ra, .int rl])), (g2, .inl (cI, 48, .inl ow))]) [0, 2] rfl, va_K.moved hW.alike hK⟩⟩ rfl rfl hl.1 rfl (lv_room (Nat.le_of_ble_eq_true rfl)) dX4_put_86 ⟨Nat.le_of_ble_eq_true rfl, Nat.le_of_ble_eq_true rfl⟩) ?_
                refine lv_iload_n hx hb dX4_put_89 rfl (lv_at hl 3 rfl) ?_
                refine lv_iadd hx hb dX4_put_90 ?_
                refine lv_iload_n hx hb dX4_put_91 rfl (lv_at hl 4 rfl) ?_
                refine va_iast hx hb hK hP hD hS 1 0 rfl rfl (m_beg_in c_6 c_8) dX4_put_92 (fun H locs hP hD hS => ?_)
                have hP : va_P D vwCl [(h0, .inr (4, [.int 0, .int (zb ((m_write qq wi).2).1), .int (((m_write qq wi).2).2.1), .int (((m_write qq wi).2).2.2.1), .ref g1, .ref g2, .ref g3, .ref g4, .ref g5, .ref g6, .int (zb ((m_write qq wi).2).2.2.2), .int (zb wi), .int (zb mo), .int mv, .int fr, .int sh, .int gr, .int cp, .int ra, .int rl])), (g1, .inl (cI, 48, .inl (upd ints ((m_begF ow (nI (m_hand ki ha p0)) 48 (-1)) + p1).toNatClampNeg p2))), (g2, .inl (cI, 48, .inl ow)), (g4, .inl (cI, 17, .inl ki)), (g6, .inl (cI, 17, .inl ha))] H := hP
                have hD : va_D A [(h0, .inr (4, [.int 0, .int (zb ((m_write qq wi).2).1), .int (((m_write qq wi).2).2.1), .int (((m_write qq wi).2).2.2.1), .ref g1, .ref g2, .ref g3, .ref g4, .ref g5, .ref g6, .int (zb ((m_write qq wi).2).2.2.2), .int (zb wi), .int (zb mo), .int mv, .int fr, .int sh, .int gr, .int cp, .int ra, .int rl])), (g1, .inl (cI, 48, .inl (upd ints ((m_begF ow (nI (m_hand ki ha p0)) 48 (-1)) + p1).toNatClampNeg p2))), (g2, .inl (cI, 48, .inl ow)), (g4, .inl (cI, 17, .inl ki)), (g6, .inl (cI, 17, .inl ha))] := hD
                refine lv_iconst (v := 0) hx hb dX4_put_93 (by decide) ?_
                have hE : m_put qq wi ints ow ki ha p0 p1 p2 = (0, 0, (m_write qq wi).2, upd ints ((m_begF ow (nI (m_hand ki ha p0)) 48 (-1)) + p1).toNatClampNeg p2) := by simp only [m_put, if_neg (z_b1f c_1), if_neg c_5, if_neg c_6, if_pos c_8, if_neg (z_b1f c_10)] <;> rfl
                have hPz : va_P D vwCl [(h0, .inr (4, [.int ((m_put qq wi ints ow ki ha p0 p1 p2).2.1), .int (zb ((m_put qq wi ints ow ki ha p0 p1 p2).2.2.1).1), .int (((m_put qq wi ints ow ki ha p0 p1 p2).2.2.1).2.1), .int (((m_put qq wi ints ow ki ha p0 p1 p2).2.2.1).2.2.1), .ref g1, .ref g2, .ref g3, .ref g4, .ref g5, .ref g6, .int (zb ((m_put qq wi ints ow ki ha p0 p1 p2).2.2.1).2.2.2), .int (zb wi), .int (zb mo), .int mv, .int fr, .int sh, .int gr, .int cp, .int ra, .int rl])), (g1, .inl (cI, 48, .inl ((m_put qq wi ints ow ki ha p0 p1 p2).2.2.2))), (g2, .inl (cI, 48, .inl ow)), (g4, .inl (cI, 17, .inl ki)), (g6, .inl (cI, 17, .inl ha))] H := by rw [hE]; exact hP
                have hRr : 0 = (m_put qq wi ints ow ki ha p0 p1 p2).1 := by first | (rw [hE]; done) | (rw [hE]; rfl)
                exact W.iret (v := 0) hx hb hr (fun t ht hW => ⟨⟨z_ret hRr, by rw [ht]; exact hPz⟩, hS.F ht⟩) hS.2.2 dX4_put_94
              · skip
                refine lv_iconst (v := -1) hx hb dX4_put_77 (by decide) ?_
                have hE : m_put qq wi ints ow ki ha p0 p1 p2 = (-1, 0, (m_write qq wi).2, ints) := by simp only [m_put, if_neg (z_b1f c_1), if_neg c_5, if_neg c_6, if_pos c_8, if_pos (z_b0 c_10)] <;> rfl
                have hPz : va_P D vwCl [(h0, .inr (4, [.int ((m_put qq wi ints ow ki ha p0 p1 p2).2.1), .int (zb ((m_put qq wi ints ow ki ha p0 p1 p2).2.2.1).1), .int (((m_put qq wi ints ow ki ha p0 p1 p2).2.2.1).2.1), .int (((m_put qq wi ints ow ki ha p0 p1 p2).2.2.1).2.2.1), .ref g1, .ref g2, .ref g3, .ref g4, .ref g5, .ref g6, .int (zb ((m_put qq wi ints ow ki ha p0 p1 p2).2.2.1).2.2.2), .int (zb wi), .int (zb mo), .int mv, .int fr, .int sh, .int gr, .int cp, .int ra, .int rl])), (g1, .inl (cI, 48, .inl ((m_put qq wi ints ow ki ha p0 p1 p2).2.2.2))), (g2, .inl (cI, 48, .inl ow)), (g4, .inl (cI, 17, .inl ki)), (g6, .inl (cI, 17, .inl ha))] H := by rw [hE]; exact hP
                have hRr : -1 = (m_put qq wi ints ow ki ha p0 p1 p2).1 := by first | (rw [hE]; done) | (rw [hE]; rfl)
                exact W.iret (v := -1) hx hb hr (fun t ht hW => ⟨⟨z_ret hRr, by rw [ht]; exact hPz⟩, hS.F ht⟩) hS.2.2 dX4_put_78
            · skip
              exact absurd (by decide) c_9
          · skip
            refine lv_iconst (v := 3) hx hb dX4_put_53 (by decide) ?_
            refine lv_goto (tgt := 58) hx hb dX4_put_54 (by decide) ?_
            refine va_put (D := D) (ci := 4) (v := .int 3) (ty := .int) (C := RX4) (T := TX4) (N := 20) hx hb hts hin4 tyX4 tyX4_ok nmX4 hown hK hP hD hS 0 rfl rfl 0 (by decide) hf36 (fun _ h9 => h9) rfl (by decide +kernel) rfl rfl (Nat.le_of_ble_eq_true rfl) dX4_put_58 (fun H locs hP hD hS => ?_)
            have hP : va_P D vwCl [(h0, .inr (4, [.int 3, .int (zb qq.1), .int qq.2.1, .int qq.2.2.1, .ref g1, .ref g2, .ref g3, .ref g4, .ref g5, .ref g6, .int (zb qq.2.2.2), .int (zb wi), .int (zb mo), .int mv, .int fr, .int sh, .int gr, .int cp, .int ra, .int rl])), (g1, .inl (cI, 48, .inl ints)), (g2, .inl (cI, 48, .inl ow)), (g4, .inl (cI, 17, .inl ki)), (g6, .inl (cI, 17, .inl ha))] H := hP
            have hD : va_D A [(h0, .inr (4, [.int 3, .int (zb qq.1), .int qq.2.1, .int qq.2.2.1, .ref g1, .ref g2, .ref g3, .ref g4, .ref g5, .ref g6, .int (zb qq.2.2.2), .int (zb wi), .int (zb mo), .int mv, .int fr, .int sh, .int gr, .int cp, .int ra, .int rl])), (g1, .inl (cI, 48, .inl ints)), (g2, .inl (cI, 48, .inl ow)), (g4, .inl (cI, 17, .inl ki)), (g6, .inl (cI, 17, .inl ha))] := hD
            refine lv_aload_n hx hb dX4_put_61 rfl (lv_at hl 1 rfl) ?_
            refine va_get (D := D) (ci := 4) (v := .int 3) (C := RX4) (T := TX4) (N := 20) hx hb hts hin4 hown hK hP 0 rfl rfl 0 (by decide) hf36 (fun _ h9 => h9) rfl dX4_put_62 ?_
            refine lv_if_le (tgt := 70) hx hb dX4_put_65 (by decide) (fun c_11 => ?_) (fun c_11 => ?_)
            · skip
              exact absurd c_11 (by decide)
            · skip
              refine lv_iconst (v := 0) hx hb dX4_put_68 (by decide) ?_
              have hE : m_put qq wi ints ow ki ha p0 p1 p2 = (0, 3, qq, ints) := by simp only [m_put, if_neg (z_b1f c_1), if_neg c_5, if_neg c_6, if_neg c_8] <;> rfl
              have hPz : va_P D vwCl [(h0, .inr (4, [.int ((m_put qq wi ints ow ki ha p0 p1 p2).2.1), .int (zb ((m_put qq wi ints ow ki ha p0 p1 p2).2.2.1).1), .int (((m_put qq wi ints ow ki ha p0 p1 p2).2.2.1).2.1), .int (((m_put qq wi ints ow ki ha p0 p1 p2).2.2.1).2.2.1), .ref g1, .ref g2, .ref g3, .ref g4, .ref g5, .ref g6, .int (zb ((m_put qq wi ints ow ki ha p0 p1 p2).2.2.1).2.2.2), .int (zb wi), .int (zb mo), .int mv, .int fr, .int sh, .int gr, .int cp, .int ra, .int rl])), (g1, .inl (cI, 48, .inl ((m_put qq wi ints ow ki ha p0 p1 p2).2.2.2))), (g2, .inl (cI, 48, .inl ow)), (g4, .inl (cI, 17, .inl ki)), (g6, .inl (cI, 17, .inl ha))] H := by rw [hE]; exact hP
              have hRr : 0 = (m_put qq wi ints ow ki ha p0 p1 p2).1 := by first | (rw [hE]; done) | (rw [hE]; rfl)
              exact W.iret (v := 0) hx hb hr (fun t ht hW => ⟨⟨z_ret hRr, by rw [ht]; exact hPz⟩, hS.F ht⟩) hS.2.2 dX4_put_69
      · skip
        refine lv_iconst (v := 2) hx hb dX4_put_35 (by decide) ?_
        refine lv_goto (tgt := 58) hx hb dX4_put_36 (by decide) ?_
        refine va_put (D := D) (ci := 4) (v := .int 2) (ty := .int) (C := RX4) (T := TX4) (N := 20) hx hb hts hin4 tyX4 tyX4_ok nmX4 hown hK hP hD hS 0 rfl rfl 0 (by decide) hf36 (fun _ h9 => h9) rfl (by decide +kernel) rfl rfl (Nat.le_of_ble_eq_true rfl) dX4_put_58 (fun H locs hP hD hS => ?_)
        have hP : va_P D vwCl [(h0, .inr (4, [.int 2, .int (zb qq.1), .int qq.2.1, .int qq.2.2.1, .ref g1, .ref g2, .ref g3, .ref g4, .ref g5, .ref g6, .int (zb qq.2.2.2), .int (zb wi), .int (zb mo), .int mv, .int fr, .int sh, .int gr, .int cp, .int ra, .int rl])), (g1, .inl (cI, 48, .inl ints)), (g2, .inl (cI, 48, .inl ow)), (g4, .inl (cI, 17, .inl ki)), (g6, .inl (cI, 17, .inl ha))] H := hP
        have hD : va_D A [(h0, .inr (4, [.int 2, .int (zb qq.1), .int qq.2.1, .int qq.2.2.1, .ref g1, .ref g2, .ref g3, .ref g4, .ref g5, .ref g6, .int (zb qq.2.2.2), .int (zb wi), .int (zb mo), .int mv, .int fr, .int sh, .int gr, .int cp, .int ra, .int rl])), (g1, .inl (cI, 48, .inl ints)), (g2, .inl (cI, 48, .inl ow)), (g4, .inl (cI, 17, .inl ki)), (g6, .inl (cI, 17, .inl ha))] := hD
        refine lv_aload_n hx hb dX4_put_61 rfl (lv_at hl 1 rfl) ?_
        refine va_get (D := D) (ci := 4) (v := .int 2) (C := RX4) (T := TX4) (N := 20) hx hb hts hin4 hown hK hP 0 rfl rfl 0 (by decide) hf36 (fun _ h9 => h9) rfl dX4_put_62 ?_
        refine lv_if_le (tgt := 70) hx hb dX4_put_65 (by decide) (fun c_12 => ?_) (fun c_12 => ?_)
        · skip
          exact absurd c_12 (by decide)
        · skip
          refine lv_iconst (v := 0) hx hb dX4_put_68 (by decide) ?_
          have hE : m_put qq wi ints ow ki ha p0 p1 p2 = (0, 2, qq, ints) := by simp only [m_put, if_neg (z_b1f c_1), if_pos c_5] <;> rfl
          have hPz : va_P D vwCl [(h0, .inr (4, [.int ((m_put qq wi ints ow ki ha p0 p1 p2).2.1), .int (zb ((m_put qq wi ints ow ki ha p0 p1 p2).2.2.1).1), .int (((m_put qq wi ints ow ki ha p0 p1 p2).2.2.1).2.1), .int (((m_put qq wi ints ow ki ha p0 p1 p2).2.2.1).2.2.1), .ref g1, .ref g2, .ref g3, .ref g4, .ref g5, .ref g6, .int (zb ((m_put qq wi ints ow ki ha p0 p1 p2).2.2.1).2.2.2), .int (zb wi), .int (zb mo), .int mv, .int fr, .int sh, .int gr, .int cp, .int ra, .int rl])), (g1, .inl (cI, 48, .inl ((m_put qq wi ints ow ki ha p0 p1 p2).2.2.2))), (g2, .inl (cI, 48, .inl ow)), (g4, .inl (cI, 17, .inl ki)), (g6, .inl (cI, 17, .inl ha))] H := by rw [hE]; exact hP
          have hRr : 0 = (m_put qq wi ints ow ki ha p0 p1 p2).1 := by first | (rw [hE]; done) | (rw [hE]; rfl)
          exact W.iret (v := 0) hx hb hr (fun t ht hW => ⟨⟨z_ret hRr, by rw [ht]; exact hPz⟩, hS.F ht⟩) hS.2.2 dX4_put_69
    · skip
      exact absurd c_4 c_1
theorem qd_X4_read : yX4_read.cls = RX4 ∧ yX4_read.cls ≠ "java/lang/invoke/MethodHandle" ∧ yX4_read.cls ≠ "java/lang/invoke/VarHandle" ∧ (parseMethodDescriptor yX4_read.desc).map (fun d => d.parameters.length) = some 2 := by decide +kernel
set_option maxHeartbeats 400000 in
set_option maxRecDepth 100000 in
/-- read -/
theorem c_X4_read (l : Launch) (D : va_G) (cI : ClassId) (h0 : Nat) (g1 : Nat) (g2 : Nat) (g3 : Nat) (g4 : Nat) (g5 : Nat) (g6 : Nat) (code : Int32) (qq : zQ) (wi : Bool) (mo : Bool) (mv : Int32) (fr : Int32) (sh : Int32) (gr : Int32) (cp : Int32) (ra : Int32) (rl : Int32) (ints : zA) (ow : zA) (ki : zA) (na : zA) (p0 : Int32) (p1 : Int32) (sz : Nat) : Met l yX4_read wsX4_read ({ frames := 1, cells := 0, slots := 0, locals := 23 }) (z_Pw D cI [.ref h0, .int p0, .int p1] [(h0, .inr (4, [.int code, .int (zb qq.1), .int qq.2.1, .int qq.2.2.1, .ref g1, .ref g2, .ref g3, .ref g4, .ref g5, .ref g6, .int (zb qq.2.2.2), .int (zb wi), .int (zb mo), .int mv, .int fr, .int sh, .int gr, .int cp, .int ra, .int rl])), (g1, .inl (cI, 48, .inl ints)), (g2, .inl (cI, 48, .inl ow)), (g4, .inl (cI, 17, .inl ki)), (g5, .inl (cI, 17, .inl na))] sz) (z_Wo D (some (.int ((m_read qq ints ow ki na p0 p1).1))) [(h0, .inr (4, [.int ((m_read qq ints ow ki na p0 p1).2), .int (zb qq.1), .int qq.2.1, .int qq.2.2.1, .ref g1, .ref g2, .ref g3, .ref g4, .ref g5, .ref g6, .int (zb qq.2.2.2), .int (zb wi), .int (zb mo), .int mv, .int fr, .int sh, .int gr, .int cp, .int ra, .int rl])), (g1, .inl (cI, 48, .inl ints)), (g2, .inl (cI, 48, .inl ow)), (g4, .inl (cI, 17, .inl ki)), (g5, .inl (cI, 17, .inl na))] (va_A [(h0, .inr (4, [.int code, .int (zb qq.1), .int qq.2.1, .int qq.2.2.1, .ref g1, .ref g2, .ref g3, .ref g4, .ref g5, .ref g6, .int (zb qq.2.2.2), .int (zb wi), .int (zb mo), .int mv, .int fr, .int sh, .int gr, .int cp, .int ra, .int rl])), (g1, .inl (cI, 48, .inl ints)), (g2, .inl (cI, 48, .inl ow)), (g4, .inl (cI, 17, .inl ki)), (g5, .inl (cI, 17, .inl na))] sz)) 0 0 (va_A [(h0, .inr (4, [.int code, .int (zb qq.1), .int qq.2.1, .int qq.2.2.1, .ref g1, .ref g2, .ref g3, .ref g4, .ref g5, .ref g6, .int (zb qq.2.2.2), .int (zb wi), .int (zb mo), .int mv, .int fr, .int sh, .int gr, .int cp, .int ra, .int rl])), (g1, .inl (cI, 48, .inl ints)), (g2, .inl (cI, 48, .inl ow)), (g4, .inl (cI, 17, .inl ki)), (g5, .inl (cI, 17, .inl na))] sz) := by
  refine Met.ofW (cc := cX4_read) (maxL := 4) (ret := (some .int)) (by decide) rfl ?_
  intro p e s m args below meth c s₁ B hml hv
  obtain ⟨rfl, hsz, hP, hK, hD0⟩ := hv
  have hx := B.exec
  have hb := B.bytes
  have hr := B.returns
  have hts := atoms_spec (ws := wsX4_read) B.pre
  have hown : s.vm.findClass RX4 = some m.cls := findClass_of_methodNamed B.named
  have hlocks := B.notSynchronized
  subst hsz
  have hD := hD0.self (sz := s.heap.size)
  generalize hAe : va_A [(h0, .inr (4, [.int code, .int (zb qq.1), .int qq.2.1, .int qq.2.2.1, .ref g1, .ref g2, .ref g3, .ref g4, .ref g5, .ref g6, .int (zb qq.2.2.2), .int (zb wi), .int (zb mo), .int mv, .int fr, .int sh, .int gr, .int cp, .int ra, .int rl])), (g1, .inl (cI, 48, .inl ints)), (g2, .inl (cI, 48, .inl ow)), (g4, .inl (cI, 17, .inl ki)), (g5, .inl (cI, 17, .inl na))] s.heap.size = A at hD ⊢
  have hA : ∀ q : Nat, s.heap.size ≤ q → A q := fun q h => by rw [← hAe]; exact Or.inr h
  have hS : va_S A s.heap s.heap [] := va_S.rf
  have hP : va_P D vwCl [(h0, .inr (4, [.int code, .int (zb qq.1), .int qq.2.1, .int qq.2.2.1, .ref g1, .ref g2, .ref g3, .ref g4, .ref g5, .ref g6, .int (zb qq.2.2.2), .int (zb wi), .int (zb mo), .int mv, .int fr, .int sh, .int gr, .int cp, .int ra, .int rl])), (g1, .inl (cI, 48, .inl ints)), (g2, .inl (cI, 48, .inl ow)), (g4, .inl (cI, 17, .inl ki)), (g5, .inl (cI, 17, .inl na))] s.heap := hP
  have hl := lv_entry ([.ref h0, .int p0, .int p1]) (n := 4) (Nat.le_of_ble_eq_true rfl)
  rw [lg_entry_eq]
  generalize (lg_sl ([.ref h0, .int p0, .int p1]) ++ List.replicate (4 - (lg_sl ([.ref h0, .int p0, .int p1])).length) Slot.unset).toArray = ls at hl ⊢
  have hl : lv_has ls 4 [(0, .ref h0), (1, .int p0), (2, .int p1)] := hl
  refine z_start hP hS (fun H locs hP hS => ?_)
  have hin4 : ∀ w ∈ wsX40, w ∈ wsX4_read := by decide +kernel
  have hf7 := hts (.fieldLink RX4 7 "SqueezedVolumeModel" "on" "Z") (by decide +kernel)
  have hf36 := hts (.fieldLink RX4 36 "SqueezedVolumeModel" "code" "I") (by decide +kernel)
  have hf17 := hts (.fieldLink RX4 17 "SqueezedVolumeModel" "ints" "[I") (by decide +kernel)
  refine lv_aload_n hx hb dX4_read_0 rfl (lv_at hl 0 rfl) ?_
  refine va_get (D := D) (ci := 4) (v := .int (zb qq.1)) (C := RX4) (T := TX4) (N := 20) hx hb hts hin4 hown hK hP 0 rfl rfl 1 (by decide) hf7 (fun _ h9 => h9) rfl dX4_read_1 ?_
  refine lv_if_eq (tgt := 15) hx hb dX4_read_4 (by decide) (fun c_1 => ?_) (fun c_1 => ?_)
  · skip
    refine lv_iconst (v := 0) hx hb dX4_read_15 (by decide) ?_
    refine lv_istore_n (lv' := [(3, .int 0), (0, .ref h0), (1, .int p0), (2, .int p1)]) hx hb dX4_read_16 rfl hl (by decide) rfl (fun ls hl => ?_)
    refine lv_aload_n hx hb dX4_read_17 rfl (lv_at hl 1 rfl) ?_
    refine lv_aload_n hx hb dX4_read_18 rfl (lv_at hl 1 rfl) ?_
    refine va_get (D := D) (ci := 4) (v := .int (zb qq.1)) (C := RX4) (T := TX4) (N := 20) hx hb hts hin4 hown hK hP 0 rfl rfl 1 (by decide) hf7 (fun _ h9 => h9) rfl dX4_read_19 ?_
    refine lv_if_ne (tgt := 29) hx hb dX4_read_22 (by decide) (fun c_2 => ?_) (fun c_2 => ?_)
    · skip
      exact absurd c_1 c_2
    · skip
      refine lv_iconst (v := 1) hx hb dX4_read_25 (by decide) ?_
      refine lv_goto (tgt := 55) hx hb dX4_read_26 (by decide) ?_
      refine va_put (D := D) (ci := 4) (v := .int 1) (ty := .int) (C := RX4) (T := TX4) (N := 20) hx hb hts hin4 tyX4 tyX4_ok nmX4 hown hK hP hD hS 0 rfl rfl 0 (by decide) hf36 (fun _ h9 => h9) rfl (by decide +kernel) rfl rfl (Nat.le_of_ble_eq_true rfl) dX4_read_55 (fun H locs hP hD hS => ?_)
      have hP : va_P D vwCl [(h0, .inr (4, [.int 1, .int (zb qq.1), .int qq.2.1, .int qq.2.2.1, .ref g1, .ref g2, .ref g3, .ref g4, .ref g5, .ref g6, .int (zb qq.2.2.2), .int (zb wi), .int (zb mo), .int mv, .int fr, .int sh, .int gr, .int cp, .int ra, .int rl])), (g1, .inl (cI, 48, .inl ints)), (g2, .inl (cI, 48, .inl ow)), (g4, .inl (cI, 17, .inl ki)), (g5, .inl (cI, 17, .inl na))] H := hP
      have hD : va_D A [(h0, .inr (4, [.int 1, .int (zb qq.1), .int qq.2.1, .int qq.2.2.1, .ref g1, .ref g2, .ref g3, .ref g4, .ref g5, .ref g6, .int (zb qq.2.2.2), .int (zb wi), .int (zb mo), .int mv, .int fr, .int sh, .int gr, .int cp, .int ra, .int rl])), (g1, .inl (cI, 48, .inl ints)), (g2, .inl (cI, 48, .inl ow)), (g4, .inl (cI, 17, .inl ki)), (g5, .inl (cI, 17, .inl na))] := hD
      refine lv_aload_n hx hb dX4_read_58 rfl (lv_at hl 1 rfl) ?_
      refine va_get (D := D) (ci := 4) (v := .int 1) (C := RX4) (T := TX4) (N := 20) hx hb hts hin4 hown hK hP 0 rfl rfl 0 (by decide) hf36 (fun _ h9 => h9) rfl dX4_read_59 ?_
      refine lv_if_le (tgt := 69) hx hb dX4_read_62 (by decide) (fun c_3 => ?_) (fun c_3 => ?_)
      · skip
        exact absurd c_3 (by decide)
      · skip
        refine lv_iconst (v := 0) hx hb dX4_read_65 (by decide) ?_
        refine lv_goto (tgt := 81) hx hb dX4_read_66 (by decide) ?_
        have hE : m_read qq ints ow ki na p0 p1 = (0, 1) := by simp only [m_read, if_pos (z_b0 c_1)] <;> rfl
        have hPz : va_P D vwCl [(h0, .inr (4, [.int ((m_read qq ints ow ki na p0 p1).2), .int (zb qq.1), .int qq.2.1, .int qq.2.2.1, .ref g1, .ref g2, .ref g3, .ref g4, .ref g5, .ref g6, .int (zb qq.2.2.2), .int (zb wi), .int (zb mo), .int mv, .int fr, .int sh, .int gr, .int cp, .int ra, .int rl])), (g1, .inl (cI, 48, .inl ints)), (g2, .inl (cI, 48, .inl ow)), (g4, .inl (cI, 17, .inl ki)), (g5, .inl (cI, 17, .inl na))] H := by rw [hE]; exact hP
        have hRr : 0 = (m_read qq ints ow ki na p0 p1).1 := by first | (rw [hE]; done) | (rw [hE]; rfl)
        exact W.iret (v := 0) hx hb hr (fun t ht hW => ⟨⟨z_ret hRr, by rw [ht]; exact hPz⟩, hS.F ht⟩) hS.2.2 dX4_read_81
  · skip
    refine lv_aload_n hx hb dX4_read_7 rfl (lv_at hl 0 rfl) ?_
    refine lv_iload_n hx hb dX4_read_8 rfl (lv_at hl 1 rfl) ?_
    refine z_callRi (va_runV (As := [.int p0]) (rest := []) ⟨hx, hb, hml, hown, hts⟩ (c_X4_permanent l D cI h0 g1 g2 g3 g4 g5 g6 code qq wi mo mv fr sh gr cp ra rl ki na p0) (cwV 1 hts gX4_read_X4_permanent rfl rfl rfl qd_X4_permanent ⟨Nat.le_of_ble_eq_true rfl, Nat.le_of_ble_eq_true rfl⟩) ⟨z_Pr_blind, va_recv hK hP (ci := 4) (q0 := 0) rfl rfl, fun U hU hW => ⟨rfl, by rw [hU]; exact hP.sub (ws' := [(h0, .inr (4, [.int code, .int (zb qq.1), .int qq.2.1, .int qq.2.2.1, .ref g1, .ref g2, .ref g3, .ref g4, .ref g5, .ref g6, .int (zb qq.2.2.2), .int (zb wi), .int (zb mo), .int mv, .int fr, .int sh, .int gr, .int cp, .int ra, .int rl])), (g4, .inl (cI, 17, .inl ki)), (g5, .inl (cI, 17, .inl na))]) [0, 3, 4] rfl, va_K.moved hW.alike hK⟩⟩ rfl rfl hl.1 rfl (lv_room (Nat.le_of_ble_eq_true rfl)) dX4_read_9 ⟨Nat.le_of_ble_eq_true rfl, Nat.le_of_ble_eq_true rfl⟩) ?_
    refine lv_goto (tgt := 16) hx hb dX4_read_12 (by decide) ?_
    refine lv_istore_n (lv' := [(3, .int (nI (m_perm ki na p0))), (0, .ref h0), (1, .int p0), (2, .int p1)]) hx hb dX4_read_16 rfl hl (by decide) rfl (fun ls hl => ?_)
    refine lv_aload_n hx hb dX4_read_17 rfl (lv_at hl 1 rfl) ?_
    refine lv_aload_n hx hb dX4_read_18 rfl (lv_at hl 1 rfl) ?_
    refine va_get (D := D) (ci := 4) (v := .int (zb qq.1)) (C := RX4) (T := TX4) (N := 20) hx hb hts hin4 hown hK hP 0 rfl rfl 1 (by decide) hf7 (fun _ h9 => h9) rfl dX4_read_19 ?_
    refine lv_if_ne (tgt := 29) hx hb dX4_read_22 (by decide) (fun c_4 => ?_) (fun c_4 => ?_)
    · skip
      refine lv_iload_n hx hb dX4_read_29 rfl (lv_at hl 0 rfl) ?_
      refine lv_if_ne (tgt := 37) hx hb dX4_read_30 (by decide) (fun c_5 => ?_) (fun c_5 => ?_)
      · skip
        refine lv_iload_n hx hb dX4_read_37 rfl (lv_at hl 3 rfl) ?_
        refine lv_if_lt (tgt := 50) hx hb dX4_read_38 (by decide) (fun c_6 => ?_) (fun c_6 => ?_)
        · skip
          refine lv_iconst (v := 3) hx hb dX4_read_50 (by decide) ?_
          refine lv_goto (tgt := 55) hx hb dX4_read_51 (by decide) ?_
          refine va_put (D := D) (ci := 4) (v := .int 3) (ty := .int) (C := RX4) (T := TX4) (N := 20) hx hb hts hin4 tyX4 tyX4_ok nmX4 hown hK hP hD hS 0 rfl rfl 0 (by decide) hf36 (fun _ h9 => h9) rfl (by decide +kernel) rfl rfl (Nat.le_of_ble_eq_true rfl) dX4_read_55 (fun H locs hP hD hS => ?_)
          have hP : va_P D vwCl [(h0, .inr (4, [.int 3, .int (zb qq.1), .int qq.2.1, .int qq.2.2.1, .ref g1, .ref g2, .ref g3, .ref g4, .ref g5, .ref g6, .int (zb qq.2.2.2), .int (zb wi), .int (zb mo), .int mv, .int fr, .int sh, .int gr, .int cp, .int ra, .int rl])), (g1, .inl (cI, 48, .inl ints)), (g2, .inl (cI, 48, .inl ow)), (g4, .inl (cI, 17, .inl ki)), (g5, .inl (cI, 17, .inl na))] H := hP
          have hD : va_D A [(h0, .inr (4, [.int 3, .int (zb qq.1), .int qq.2.1, .int qq.2.2.1, .ref g1, .ref g2, .ref g3, .ref g4, .ref g5, .ref g6, .int (zb qq.2.2.2), .int (zb wi), .int (zb mo), .int mv, .int fr, .int sh, .int gr, .int cp, .int ra, .int rl])), (g1, .inl (cI, 48, .inl ints)), (g2, .inl (cI, 48, .inl ow)), (g4, .inl (cI, 17, .inl ki)), (g5, .inl (cI, 17, .inl na))] := hD
          refine lv_aload_n hx hb dX4_read_58 rfl (lv_at hl 1 rfl) ?_
          refine va_get (D := D) (ci := 4) (v := .int 3) (C := RX4) (T := TX4) (N := 20) hx hb hts hin4 hown hK hP 0 rfl rfl 0 (by decide) hf36 (fun _ h9 => h9) rfl dX4_read_59 ?_
          refine lv_if_le (tgt := 69) hx hb dX4_read_62 (by decide) (fun c_7 => ?_) (fun c_7 => ?_)
          · skip
            exact absurd c_7 (by decide)
          · skip
            refine lv_iconst (v := 0) hx hb dX4_read_65 (by decide) ?_
            refine lv_goto (tgt := 81) hx hb dX4_read_66 (by decide) ?_
            have hE : m_read qq ints ow ki na p0 p1 = (0, 3) := by simp only [m_read, if_neg (z_b1f c_1), if_neg c_5, if_pos c_6] <;> rfl
            have hPz : va_P D vwCl [(h0, .inr (4, [.int ((m_read qq ints ow ki na p0 p1).2), .int (zb qq.1), .int qq.2.1, .int qq.2.2.1, .ref g1, .ref g2, .ref g3, .ref g4, .ref g5, .ref g6, .int (zb qq.2.2.2), .int (zb wi), .int (zb mo), .int mv, .int fr, .int sh, .int gr, .int cp, .int ra, .int rl])), (g1, .inl (cI, 48, .inl ints)), (g2, .inl (cI, 48, .inl ow)), (g4, .inl (cI, 17, .inl ki)), (g5, .inl (cI, 17, .inl na))] H := by rw [hE]; exact hP
            have hRr : 0 = (m_read qq ints ow ki na p0 p1).1 := by first | (rw [hE]; done) | (rw [hE]; rfl)
            exact W.iret (v := 0) hx hb hr (fun t ht hW => ⟨⟨z_ret hRr, by rw [ht]; exact hPz⟩, hS.F ht⟩) hS.2.2 dX4_read_81
        · skip
          refine lv_iload_n hx hb dX4_read_41 rfl (lv_at hl 3 rfl) ?_
          refine lv_aload_n hx hb dX4_read_42 rfl (lv_at hl 1 rfl) ?_
          refine lv_iload_n hx hb dX4_read_43 rfl (lv_at hl 0 rfl) ?_
          refine z_callRi (va_runV (As := [.int (nI (m_perm ki na p0))]) (rest := [.int p1, .ref h0]) ⟨hx, hb, hml, hown, hts⟩ (c_X4_lengthOf l D cI h0 g1 g2 g3 g4 g5 g6 code qq wi mo mv fr sh gr cp ra rl ow (nI (m_perm ki na p0))) (cwV 1 hts gX4_read_X4_lengthOf rfl rfl rfl qd_X4_lengthOf ⟨Nat.le_of_ble_eq_true rfl, Nat.le_of_ble_eq_true rfl⟩) ⟨z_Pr_blind, va_recv hK hP (ci := 4) (q0 := 0) rfl rfl, fun U hU hW => ⟨rfl, by rw [hU]; exact hP.sub (ws' := [(h0, .inr (4, [.int code, .int (zb qq.1), .int qq.2.1, .int qq.2.2.1, .ref g1, .ref g2, .ref g3, .ref g4, .ref g5, .ref g6, .int (zb qq.2.2.2), .int (zb wi), .int (zb mo), .int mv, .int fr, .int sh, .int gr, .int cp, .int ra, .int rl])), (g2, .inl (cI, 48, .inl ow))]) [0, 2] rfl, va_K.moved hW.alike hK⟩⟩ rfl rfl hl.1 rfl (lv_room (Nat.le_of_ble_eq_true rfl)) dX4_read_44 ⟨Nat.le_of_ble_eq_true rfl, Nat.le_of_ble_eq_true rfl⟩) ?_
          refine lv_icmp_lt (tgt := 54) hx hb dX4_read_47 (by decide) (fun c_8 => ?_) (fun c_8 => ?_)
          · skip
            refine lv_iconst (v := 0) hx hb dX4_read_54 (by decide) ?_
            refine va_put (D := D) (ci := 4) (v := .int 0) (ty := .int) (C := RX4) (T := TX4) (N := 20) hx hb hts hin4 tyX4 tyX4_ok nmX4 hown hK hP hD hS 0 rfl rfl 0 (by decide) hf36 (fun _ h9 => h9) rfl (by decide +kernel) rfl rfl (Nat.le_of_ble_eq_true rfl) dX4_read_55 (fun H locs hP hD hS => ?_)
            have hP : va_P D vwCl [(h0, .inr (4, [.int 0, .int (zb qq.1), .int qq.2.1, .int qq.2.2.1, .ref g1, .ref g2, .ref g3, .ref g4, .ref g5, .ref g6, .int (zb qq.2.2.2), .int (zb wi), .int (zb mo), .int mv, .int fr, .int sh, .int gr, .int cp, .int ra, .int rl])), (g1, .inl (cI, 48, .inl ints)), (g2, .inl (cI, 48, .inl ow)), (g4, .inl (cI, 17, .inl ki)), (g5, .inl (cI, 17, .inl na))] H := hP
            have hD : va_D A [(h0, .inr (4, [.int 0, .int (zb qq.1), .int qq.2.1, .int qq.2.2.1, .ref g1, .ref g2, .ref g3, .ref g4, .ref g5, .ref g6, .int (zb qq.2.2.2), .int (zb wi), .int (zb mo), .int mv, .int fr, .int sh, .int gr, .int cp, .int ra, .int rl])), (g1, .inl (cI, 48, .inl ints)), (g2, .inl (cI, 48, .inl ow)), (g4, .inl (cI, 17, .inl ki)), (g5, .inl (cI, 17, .inl na))] := hD
            refine lv_aload_n hx hb dX4_read_58 rfl (lv_at hl 1 rfl) ?_
            refine va_get (D := D) (ci := 4) (v := .int 0) (C := RX4) (T := TX4) (N := 20) hx hb hts hin4 hown hK hP 0 rfl rfl 0 (by decide) hf36 (fun _ h9 => h9) rfl dX4_read_59 ?_
            refine lv_if_le (tgt := 69) hx hb dX4_read_62 (by decide) (fun c_9 => ?_) (fun c_9 => ?_)
            · skip
              refine lv_aload_n hx hb dX4_read_69 rfl (lv_at hl 1 rfl) ?_
              refine va_get (D := D) (ci := 4) (v := .ref g1) (C := RX4) (T := TX4) (N := 20) hx hb hts hin4 hown hK hP 0 rfl rfl 4 (by decide) hf17 (fun _ h9 => h9) rfl dX4_read_70 ?_
              refine lv_aload_n hx hb dX4_read_73 rfl (lv_at hl 1 rfl) ?_
              refine lv_iload_n hx hb dX4_read_74 rfl (lv_at hl 0 rfl) ?_
              refine z_callRi (va_runV (As := [.int (nI (m_perm ki na p0))]) (rest := [.ref g1]) ⟨hx, hb, hml, hown, hts⟩ (c_X4_beginOf l D cI h0 g1 g2 g3 g4 g5 g6 0 qq wi mo mv fr sh gr cp ra rl ow (nI (m_perm ki na p0))) (cwV 1 hts gX4_read_X4_beginOf rfl rfl rfl qd_X4_beginOf ⟨Nat.le_of_ble_eq_true rfl, Nat.le_of_ble_eq_true rfl⟩) ⟨z_Pr_blind, va_recv hK hP (ci := 4) (q0 := 0) rfl rfl, fun U hU hW => ⟨rfl, by rw [hU]; exact hP.sub (ws' := [(h0, .inr (4, [.int 0, .int (zb qq.1), .int qq.2.1, .int qq.2.2.1, .ref g1, .ref g2, .ref g3, .ref g4, .ref g5, .ref g6, .int (zb qq.2.2.2), .int (zb wi), .int (zb mo), .int mv, .int fr, .int sh, .int gr, .int cp, .int ra, .int rl])), (g2, .inl (cI, 48, .inl ow))]) [0, 2] rfl, va_K.moved hW.alike hK⟩⟩ rfl rfl hl.1 rfl (lv_room (Nat.le_of_ble_eq_true rfl)) dX4_read_75 ⟨Nat.le_of_ble_eq_true rfl, Nat.le_of_ble_eq_true rfl⟩) ?_
              refine lv_iload_n hx hb dX4_read_78 rfl (lv_at hl 3 rfl) ?_
              refine lv_iadd hx hb dX4_read_79 ?_
              refine va_iald hx hb hK hP 1 0 rfl rfl (m_beg_in c_6 c_8) dX4_read_80 ?_
              have hE : m_read qq ints ow ki na p0 p1 = (ints ((m_begF ow (nI (m_perm ki na p0)) 48 (-1)) + p1).toNatClampNeg, 0) := by simp only [m_read, if_neg (z_b1f c_1), if_neg c_5, if_neg c_6, if_pos c_8] <;> rfl
              have hPz : va_P D vwCl [(h0, .inr (4, [.int ((m_read qq ints ow ki na p0 p1).2), .int (zb qq.1), .int qq.2.1, .int qq.2.2.1, .ref g1, .ref g2, .ref g3, .ref g4, .ref g5, .ref g6, .int (zb qq.2.2.2), .int (zb wi), .int (zb mo), .int mv, .int fr, .int sh, .int gr, .int cp, .int ra, .int rl])), (g1, .inl (cI, 48, .inl ints)), (g2, .inl (cI, 48, .inl ow)), (g4, .inl (cI, 17, .inl ki)), (g5, .inl (cI, 17, .inl na))] H := by rw [hE]; exact hP
              have hRr : ints ((m_begF ow (nI (m_perm ki na p0)) 48 (-1)) + p1).toNatClampNeg = (m_read qq ints ow ki na p0 p1).1 := by first | (rw [hE]; done) | (rw [hE]; rfl)
              exact W.iret (v := ints ((m_begF ow (nI (m_perm ki na p0)) 48 (-1)) + p1).toNatClampNeg) hx hb hr (fun t ht hW => ⟨⟨z_ret hRr, by rw [ht]; exact hPz⟩, hS.F ht⟩) hS.2.2 dX4_read_81
            · skip
              exact absurd (by decide) c_9
          · skip
            refine lv_iconst (v := 3) hx hb dX4_read_50 (by decide) ?_
            refine lv_goto (tgt := 55) hx hb dX4_read_51 (by decide) ?_
            refine va_put (D := D) (ci := 4) (v := .int 3) (ty := .int) (C := RX4) (T := TX4) (N := 20) hx hb hts hin4 tyX4 tyX4_ok nmX4 hown hK hP hD hS 0 rfl rfl 0 (by decide) hf36 (fun _ h9 => h9) rfl (by decide +kernel) rfl rfl (Nat.le_of_ble_eq_true rfl) dX4_read_55 (fun H locs hP hD hS => ?_)
            have hP : va_P D vwCl [(h0, .inr (4, [.int 3, .int (zb qq.1), .int qq.2.1, .int qq.2.2.1, .ref g1, .ref g2, .ref g3, .ref g4, .ref g5, .ref g6, .int (zb qq.2.2.2), .int (zb wi), .int (zb mo), .int mv, .int fr, .int sh, .int gr, .int cp, .int ra, .int rl])), (g1, .inl (cI, 48, .inl ints)), (g2, .inl (cI, 48, .inl ow)), (g4, .inl (cI, 17, .inl ki)), (g5, .inl (cI, 17, .inl na))] H := hP
            have hD : va_D A [(h0, .inr (4, [.int 3, .int (zb qq.1), .int qq.2.1, .int qq.2.2.1, .ref g1, .ref g2, .ref g3, .ref g4, .ref g5, .ref g6, .int (zb qq.2.2.2), .int (zb wi), .int (zb mo), .int mv, .int fr, .int sh, .int gr, .int cp, .int ra, .int rl])), (g1, .inl (cI, 48, .inl ints)), (g2, .inl (cI, 48, .inl ow)), (g4, .inl (cI, 17, .inl ki)), (g5, .inl (cI, 17, .inl na))] := hD
            refine lv_aload_n hx hb dX4_read_58 rfl (lv_at hl 1 rfl) ?_
            refine va_get (D := D) (ci := 4) (v := .int 3) (C := RX4) (T := TX4) (N := 20) hx hb hts hin4 hown hK hP 0 rfl rfl 0 (by decide) hf36 (fun _ h9 => h9) rfl dX4_read_59 ?_
            refine lv_if_le (tgt := 69) hx hb dX4_read_62 (by decide) (fun c_10 => ?_) (fun c_10 => ?_)
            · skip
              exact absurd c_10 (by decide)
            · skip
              refine lv_iconst (v := 0) hx hb dX4_read_65 (by decide) ?_
              refine lv_goto (tgt := 81) hx hb dX4_read_66 (by decide) ?_
              have hE : m_read qq ints ow ki na p0 p1 = (0, 3) := by simp only [m_read, if_neg (z_b1f c_1), if_neg c_5, if_neg c_6, if_neg c_8] <;> rfl
              have hPz : va_P D vwCl [(h0, .inr (4, [.int ((m_read qq ints ow ki na p0 p1).2), .int (zb qq.1), .int qq.2.1, .int qq.2.2.1, .ref g1, .ref g2, .ref g3, .ref g4, .ref g5, .ref g6, .int (zb qq.2.2.2), .int (zb wi), .int (zb mo), .int mv, .int fr, .int sh, .int gr, .int cp, .int ra, .int rl])), (g1, .inl (cI, 48, .inl ints)), (g2, .inl (cI, 48, .inl ow)), (g4, .inl (cI, 17, .inl ki)), (g5, .inl (cI, 17, .inl na))] H := by rw [hE]; exact hP
              have hRr : 0 = (m_read qq ints ow ki na p0 p1).1 := by first | (rw [hE]; done) | (rw [hE]; rfl)
              exact W.iret (v := 0) hx hb hr (fun t ht hW => ⟨⟨z_ret hRr, by rw [ht]; exact hPz⟩, hS.F ht⟩) hS.2.2 dX4_read_81
      · skip
        refine lv_iconst (v := 2) hx hb dX4_read_33 (by decide) ?_
        refine lv_goto (tgt := 55) hx hb dX4_read_34 (by decide) ?_
        refine va_put (D := D) (ci := 4) (v := .int 2) (ty := .int) (C := RX4) (T := TX4) (N := 20) hx hb hts hin4 tyX4 tyX4_ok nmX4 hown hK hP hD hS 0 rfl rfl 0 (by decide) hf36 (fun _ h9 => h9) rfl (by decide +kernel) rfl rfl (Nat.le_of_ble_eq_true rfl) dX4_read_55 (fun H locs hP hD hS => ?_)
        have hP : va_P D vwCl [(h0, .inr (4, [.int 2, .int (zb qq.1), .int qq.2.1, .int qq.2.2.1, .ref g1, .ref g2, .ref g3, .ref g4, .ref g5, .ref g6, .int (zb qq.2.2.2), .int (zb wi), .int (zb mo), .int mv, .int fr, .int sh, .int gr, .int cp, .int ra, .int rl])), (g1, .inl (cI, 48, .inl ints)), (g2, .inl (cI, 48, .inl ow)), (g4, .inl (cI, 17, .inl ki)), (g5, .inl (cI, 17, .inl na))] H := hP
        have hD : va_D A [(h0, .inr (4, [.int 2, .int (zb qq.1), .int qq.2.1, .int qq.2.2.1, .ref g1, .ref g2, .ref g3, .ref g4, .ref g5, .ref g6, .int (zb qq.2.2.2), .int (zb wi), .int (zb mo), .int mv, .int fr, .int sh, .int gr, .int cp, .int ra, .int rl])), (g1, .inl (cI, 48, .inl ints)), (g2, .inl (cI, 48, .inl ow)), (g4, .inl (cI, 17, .inl ki)), (g5, .inl (cI, 17, .inl na))] := hD
        refine lv_aload_n hx hb dX4_read_58 rfl (lv_at hl 1 rfl) ?_
        refine va_get (D := D) (ci := 4) (v := .int 2) (C := RX4) (T := TX4) (N := 20) hx hb hts hin4 hown hK hP 0 rfl rfl 0 (by decide) hf36 (fun _ h9 => h9) rfl dX4_read_59 ?_
        refine lv_if_le (tgt := 69) hx hb dX4_read_62 (by decide) (fun c_11 => ?_) (fun c_11 => ?_)
        · skip
          exact absurd c_11 (by decide)
        · skip
          refine lv_iconst (v := 0) hx hb dX4_read_65 (by decide) ?_
          refine lv_goto (tgt := 81) hx hb dX4_read_66 (by decide) ?_
          have hE : m_read qq ints ow ki na p0 p1 = (0, 2) := by simp only [m_read, if_neg (z_b1f c_1), if_pos c_5] <;> rfl
          have hPz : va_P D vwCl [(h0, .inr (4, [.int ((m_read qq ints ow ki na p0 p1).2), .int (zb qq.1), .int qq.2.1, .int qq.2.2.1, .ref g1, .ref g2, .ref g3, .ref g4, .ref g5, .ref g6, .int (zb qq.2.2.2), .int (zb wi), .int (zb mo), .int mv, .int fr, .int sh, .int gr, .int cp, .int ra, .int rl])), (g1, .inl (cI, 48, .inl ints)), (g2, .inl (cI, 48, .inl ow)), (g4, .inl (cI, 17, .inl ki)), (g5, .inl (cI, 17, .inl na))] H := by rw [hE]; exact hP
          have hRr : 0 = (m_read qq ints ow ki na p0 p1).1 := by first | (rw [hE]; done) | (rw [hE]; rfl)
          exact W.iret (v := 0) hx hb hr (fun t ht hW => ⟨⟨z_ret hRr, by rw [ht]; exact hPz⟩, hS.F ht⟩) hS.2.2 dX4_read_81
    · skip
      exact absurd c_4 c_1
theorem qd_X4_vanish : yX4_vanish.cls = RX4 ∧ yX4_vanish.cls ≠ "java/lang/invoke/MethodHandle" ∧ yX4_vanish.cls ≠ "java/lang/invoke/VarHandle" ∧ (parseMethodDescriptor yX4_vanish.desc).map (fun d => d.parameters.length) = some 1 := by decide +kernel
set_option maxHeartbeats 400000 in
set_option maxRecDepth 100000 in
/-- vanish -/
theorem c_X4_vanish (l : Launch) (D : va_G) (cI : ClassId) (h0 : Nat) (g1 : Nat) (g2 : Nat) (g3 : Nat) (g4 : Nat) (g5 : Nat) (g6 : Nat) (code : Int32) (qq : zQ) (wi : Bool) (mo : Bool) (mv : Int32) (fr : Int32) (sh : Int32) (gr : Int32) (cp : Int32) (ra : Int32) (rl : Int32) (ow : zA) (nx : zA) (ki : zA) (p0 : Int32) (ff : Nat) (sz : Nat) (hp : p0 = nI ff) (hff : ff ≤ 16) : Met l yX4_vanish wsX4_vanish ({ frames := 2, cells := 0, slots := 0, locals := 44 }) (z_Pw D cI [.ref h0, .int p0] [(h0, .inr (4, [.int code, .int (zb qq.1), .int qq.2.1, .int qq.2.2.1, .ref g1, .ref g2, .ref g3, .ref g4, .ref g5, .ref g6, .int (zb qq.2.2.2), .int (zb wi), .int (zb mo), .int mv, .int fr, .int sh, .int gr, .int cp, .int ra, .int rl])), (g2, .inl (cI, 48, .inl ow)), (g3, .inl (cI, 48, .inl nx)), (g4, .inl (cI, 17, .inl ki))] sz) (z_Wo D (some (.int ((m_van qq wi ow nx ki p0 ff).1))) [(h0, .inr (4, [.int code, .int (zb ((m_van qq wi ow nx ki p0 ff).2.1).1), .int (((m_van qq wi ow nx ki p0 ff).2.1).2.1), .int (((m_van qq wi ow nx ki p0 ff).2.1).2.2.1), .ref g1, .ref g2, .ref g3, .ref g4, .ref g5, .ref g6, .int (zb ((m_van qq wi ow nx ki p0 ff).2.1).2.2.2), .int (zb wi), .int (zb mo), .int mv, .int fr, .int sh, .int gr, .int cp, .int ra, .int rl])), (g2, .inl (cI, 48, .inl ((m_van qq wi ow nx ki p0 ff).2.2.1))), (g3, .inl (cI, 48, .inl ((m_van qq wi ow nx ki p0 ff).2.2.2.1))), (g4, .inl (cI, 17, .inl ((m_van qq wi ow nx ki p0 ff).2.2.2.2)))] (va_A [(h0, .inr (4, [.int code, .int (zb qq.1), .int qq.2.1, .int qq.2.2.1, .ref g1, .ref g2, .ref g3, .ref g4, .ref g5, .ref g6, .int (zb qq.2.2.2), .int (zb wi), .int (zb mo), .int mv, .int fr, .int sh, .int gr, .int cp, .int ra, .int rl])), (g2, .inl (cI, 48, .inl ow)), (g3, .inl (cI, 48, .inl nx)), (g4, .inl (cI, 17, .inl ki))] sz)) 0 0 (va_A [(h0, .inr (4, [.int code, .int (zb qq.1), .int qq.2.1, .int qq.2.2.1, .ref g1, .ref g2, .ref g3, .ref g4, .ref g5, .ref g6, .int (zb qq.2.2.2), .int (zb wi), .int (zb mo), .int mv, .int fr, .int sh, .int gr, .int cp, .int ra, .int rl])), (g2, .inl (cI, 48, .inl ow)), (g3, .inl (cI, 48, .inl nx)), (g4, .inl (cI, 17, .inl ki))] sz) := by
  refine Met.ofW (cc := cX4_vanish) (maxL := 3) (ret := (some .int)) (by decide) rfl ?_
  intro p e s m args below meth c s₁ B hml hv
  obtain ⟨rfl, hsz, hP, hK, hD0⟩ := hv
  have hx := B.exec
  have hb := B.bytes
  have hr := B.returns
  have hts := atoms_spec (ws := wsX4_vanish) B.pre
  have hown : s.vm.findClass RX4 = some m.cls := findClass_of_methodNamed B.named
  have hlocks := B.notSynchronized
  subst hsz
  have hD := hD0.self (sz := s.heap.size)
  generalize hAe : va_A [(h0, .inr (4, [.int code, .int (zb qq.1), .int qq.2.1, .int qq.2.2.1, .ref g1, .ref g2, .ref g3, .ref g4, .ref g5, .ref g6, .int (zb qq.2.2.2), .int (zb wi), .int (zb mo), .int mv, .int fr, .int sh, .int gr, .int cp, .int ra, .int rl])), (g2, .inl (cI, 48, .inl ow)), (g3, .inl (cI, 48, .inl nx)), (g4, .inl (cI, 17, .inl ki))] s.heap.size = A at hD ⊢
  have hA : ∀ q : Nat, s.heap.size ≤ q → A q := fun q h => by rw [← hAe]; exact Or.inr h
  have hS : va_S A s.heap s.heap [] := va_S.rf
  have hP : va_P D vwCl [(h0, .inr (4, [.int code, .int (zb qq.1), .int qq.2.1, .int qq.2.2.1, .ref g1, .ref g2, .ref g3, .ref g4, .ref g5, .ref g6, .int (zb qq.2.2.2), .int (zb wi), .int (zb mo), .int mv, .int fr, .int sh, .int gr, .int cp, .int ra, .int rl])), (g2, .inl (cI, 48, .inl ow)), (g3, .inl (cI, 48, .inl nx)), (g4, .inl (cI, 17, .inl ki))] s.heap := hP
  have hl := lv_entry ([.ref h0, .int p0]) (n := 3) (Nat.le_of_ble_eq_true rfl)
  rw [lg_entry_eq]
  generalize (lg_sl ([.ref h0, .int p0]) ++ List.replicate (3 - (lg_sl ([.ref h0, .int p0])).length) Slot.unset).toArray = ls at hl ⊢
  have hl : lv_has ls 3 [(0, .ref h0), (1, .int p0)] := hl
  refine z_start hP hS (fun H locs hP hS => ?_)
  have hin4 : ∀ w ∈ wsX40, w ∈ wsX4_vanish := by decide +kernel
  have hf27 := hts (.fieldLink RX4 27 "SqueezedVolumeModel" "kind" "[I") (by decide +kernel)
  refine lv_aload_n hx hb dX4_vanish_0 rfl (lv_at hl 0 rfl) ?_
  refine lv_iload_n hx hb dX4_vanish_1 rfl (lv_at hl 1 rfl) ?_
  refine z_callRi (va_runV (As := [.int p0]) (rest := []) ⟨hx, hb, hml, hown, hts⟩ (c_X4_lengthOf l D cI h0 g1 g2 g3 g4 g5 g6 code qq wi mo mv fr sh gr cp ra rl ow p0) (cwV 1 hts gX4_vanish_X4_lengthOf rfl rfl rfl qd_X4_lengthOf ⟨Nat.le_of_ble_eq_true rfl, Nat.le_of_ble_eq_true rfl⟩) ⟨z_Pr_blind, va_recv hK hP (ci := 4) (q0 := 0) rfl rfl, fun U hU hW => ⟨rfl, by rw [hU]; exact hP.sub (ws' := [(h0, .inr (4, [.int code, .int (zb qq.1), .int qq.2.1, .int qq.2.2.1, .ref g1, .ref g2, .ref g3, .ref g4, .ref g5, .ref g6, .int (zb qq.2.2.2), .int (zb wi), .int (zb mo), .int mv, .int fr, .int sh, .int gr, .int cp, .int ra, .int rl])), (g2, .inl (cI, 48, .inl ow))]) [0, 1] rfl, va_K.moved hW.alike hK⟩⟩ rfl rfl hl.1 rfl (lv_room (Nat.le_of_ble_eq_true rfl)) dX4_vanish_2 ⟨Nat.le_of_ble_eq_true rfl, Nat.le_of_ble_eq_true rfl⟩) ?_
  refine lv_istore_n (lv' := [(2, .int (m_cnt ow p0 48)), (0, .ref h0), (1, .int p0)]) hx hb dX4_vanish_5 rfl hl (by decide) rfl (fun ls hl => ?_)
  refine lv_aload_n hx hb dX4_vanish_6 rfl (lv_at hl 1 rfl) ?_
  have hPc : va_P D vwCl [(h0, .inr (4, [.int code, .int (zb qq.1), .int qq.2.1, .int qq.2.2.1, .ref g1, .ref g2, .ref g3, .ref g4, .ref g5, .ref g6, .int (zb qq.2.2.2), .int (zb wi), .int (zb mo), .int mv, .int fr, .int sh, .int gr, .int cp, .int ra, .int rl])), (g2, .inl (cI, 48, .inl ow)), (g3, .inl (cI, 48, .inl nx))] H := hP.sub [0, 1, 2] rfl
  have hDc : va_D A [(h0, .inr (4, [.int code, .int (zb qq.1), .int qq.2.1, .int qq.2.2.1, .ref g1, .ref g2, .ref g3, .ref g4, .ref g5, .ref g6, .int (zb qq.2.2.2), .int (zb wi), .int (zb mo), .int mv, .int fr, .int sh, .int gr, .int cp, .int ra, .int rl])), (g2, .inl (cI, 48, .inl ow)), (g3, .inl (cI, 48, .inl nx))] := hD.sub [0, 1, 2] (by decide) rfl
  refine z_callWv (ws' := [(h0, .inr (4, [.int code, .int (zb qq.1), .int qq.2.1, .int qq.2.2.1, .ref g1, .ref g2, .ref g3, .ref g4, .ref g5, .ref g6, .int (zb qq.2.2.2), .int (zb wi), .int (zb mo), .int mv, .int fr, .int sh, .int gr, .int cp, .int ra, .int rl])), (g2, .inl (cI, 48, .inl ow)), (g3, .inl (cI, 48, .inl (m_cp nx ow))), (g4, .inl (cI, 17, .inl ki))]) [0, 1, 2] [3] [(g4, .inl (cI, 17, .inl ki))] [h0, g2, g3, g4] (va_runV (As := []) (rest := []) ⟨hx, hb, hml, hown, hts⟩ (c_X4_lay l D cI h0 g1 g2 g3 g4 g5 g6 code qq wi mo mv fr sh gr cp ra rl ow nx H.size) (cwV 0 hts gX4_vanish_X4_lay rfl rfl rfl qd_X4_lay ⟨Nat.le_of_ble_eq_true rfl, Nat.le_of_ble_eq_true rfl⟩) ⟨z_Pw_blind, va_recv hK hP (ci := 4) (q0 := 0) rfl rfl, fun U hU hW => ⟨rfl, by rw [hU], by rw [hU]; exact hPc, va_K.moved hW.alike hK, hDc.weaken (fun _ _ _ _ => trivial)⟩⟩ rfl rfl hl.1 rfl (lv_room (Nat.le_of_ble_eq_true rfl)) dX4_vanish_7 ⟨Nat.le_of_ble_eq_true rfl, Nat.le_of_ble_eq_true rfl⟩) hP hD hS hA ⟨rfl, rfl, rfl, rfl, rfl, rfl, rfl⟩ (fun H locs hP hD hS => ?_)
  generalize hs_1 : m_cp nx ow = s_1 at hP hD ⊢
  refine lv_aload_n hx hb dX4_vanish_10 rfl (lv_at hl 1 rfl) ?_
  refine lv_iload_n hx hb dX4_vanish_11 rfl (lv_at hl 2 rfl) ?_
  refine lv_iconst (v := 0) hx hb dX4_vanish_12 (by decide) ?_
  have hPc : va_P D vwCl [(h0, .inr (4, [.int code, .int (zb qq.1), .int qq.2.1, .int qq.2.2.1, .ref g1, .ref g2, .ref g3, .ref g4, .ref g5, .ref g6, .int (zb qq.2.2.2), .int (zb wi), .int (zb mo), .int mv, .int fr, .int sh, .int gr, .int cp, .int ra, .int rl])), (g2, .inl (cI, 48, .inl ow)), (g3, .inl (cI, 48, .inl s_1))] H := hP.sub [0, 1, 2] rfl
  have hDc : va_D A [(h0, .inr (4, [.int code, .int (zb qq.1), .int qq.2.1, .int qq.2.2.1, .ref g1, .ref g2, .ref g3, .ref g4, .ref g5, .ref g6, .int (zb qq.2.2.2), .int (zb wi), .int (zb mo), .int mv, .int fr, .int sh, .int gr, .int cp, .int ra, .int rl])), (g2, .inl (cI, 48, .inl ow)), (g3, .inl (cI, 48, .inl s_1))] := hD.sub [0, 1, 2] (by decide) rfl
  refine z_callWv (ws' := [(h0, .inr (4, [.int code, .int (zb qq.1), .int qq.2.1, .int qq.2.2.1, .ref g1, .ref g2, .ref g3, .ref g4, .ref g5, .ref g6, .int (zb qq.2.2.2), .int (zb wi), .int (zb mo), .int mv, .int fr, .int sh, .int gr, .int cp, .int ra, .int rl])), (g2, .inl (cI, 48, .inl ow)), (g3, .inl (cI, 48, .inl (m_gv ow s_1 p0 0))), (g4, .inl (cI, 17, .inl ki))]) [0, 1, 2] [3] [(g4, .inl (cI, 17, .inl ki))] [h0, g2, g3, g4] (va_runV (As := [.int p0, .int 0]) (rest := []) ⟨hx, hb, hml, hown, hts⟩ (c_X4_giveUp l D cI h0 g1 g2 g3 g4 g5 g6 code qq wi mo mv fr sh gr cp ra rl ow s_1 p0 0 H.size) (cwV 2 hts gX4_vanish_X4_giveUp rfl rfl rfl qd_X4_giveUp ⟨Nat.le_of_ble_eq_true rfl, Nat.le_of_ble_eq_true rfl⟩) ⟨z_Pw_blind, va_recv hK hP (ci := 4) (q0 := 0) rfl rfl, fun U hU hW => ⟨rfl, by rw [hU], by rw [hU]; exact hPc, va_K.moved hW.alike hK, hDc.weaken (fun _ _ _ _ => trivial)⟩⟩ rfl rfl hl.1 rfl (lv_room (Nat.le_of_ble_eq_true rfl)) dX4_vanish_13 ⟨Nat.le_of_ble_eq_true rfl, Nat.le_of_ble_eq_true rfl⟩) hP hD hS hA ⟨rfl, rfl, rfl, rfl, rfl, rfl, rfl⟩ (fun H locs hP hD hS => ?_)
  generalize hs_2 : m_gv ow s_1 p0 0 = s_2 at hP hD ⊢
  refine lv_aload_n hx hb dX4_vanish_16 rfl (lv_at hl 1 rfl) ?_
  have hPc : va_P D vwCl [(h0, .inr (4, [.int code, .int (zb qq.1), .int qq.2.1, .int qq.2.2.1, .ref g1, .ref g2, .ref g3, .ref g4, .ref g5, .ref g6, .int (zb qq.2.2.2), .int (zb wi), .int (zb mo), .int mv, .int fr, .int sh, .int gr, .int cp, .int ra, .int rl])), (g2, .inl (cI, 48, .inl ow)), (g3, .inl (cI, 48, .inl s_2))] H := hP.sub [0, 1, 2] rfl
  have hDc : va_D A [(h0, .inr (4, [.int code, .int (zb qq.1), .int qq.2.1, .int qq.2.2.1, .ref g1, .ref g2, .ref g3, .ref g4, .ref g5, .ref g6, .int (zb qq.2.2.2), .int (zb wi), .int (zb mo), .int mv, .int fr, .int sh, .int gr, .int cp, .int ra, .int rl])), (g2, .inl (cI, 48, .inl ow)), (g3, .inl (cI, 48, .inl s_2))] := hD.sub [0, 1, 2] (by decide) rfl
  refine z_callWi (ws' := [(h0, .inr (4, [.int code, .int (zb ((m_change qq wi ow s_2).2.1).1), .int (((m_change qq wi ow s_2).2.1).2.1), .int (((m_change qq wi ow s_2).2.1).2.2.1), .ref g1, .ref g2, .ref g3, .ref g4, .ref g5, .ref g6, .int (zb ((m_change qq wi ow s_2).2.1).2.2.2), .int (zb wi), .int (zb mo), .int mv, .int fr, .int sh, .int gr, .int cp, .int ra, .int rl])), (g2, .inl (cI, 48, .inl ((m_change qq wi ow s_2).2.2))), (g3, .inl (cI, 48, .inl s_2)), (g4, .inl (cI, 17, .inl ki))]) [0, 1, 2] [3] [(g4, .inl (cI, 17, .inl ki))] [h0, g2, g3, g4] (va_runV (As := []) (rest := []) ⟨hx, hb, hml, hown, hts⟩ (c_X4_change l D cI h0 g1 g2 g3 g4 g5 g6 code qq wi mo mv fr sh gr cp ra rl ow s_2 H.size) (cwV 0 hts gX4_vanish_X4_change rfl rfl rfl qd_X4_change ⟨Nat.le_of_ble_eq_true rfl, Nat.le_of_ble_eq_true rfl⟩) ⟨z_Pw_blind, va_recv hK hP (ci := 4) (q0 := 0) rfl rfl, fun U hU hW => ⟨rfl, by rw [hU], by rw [hU]; exact hPc, va_K.moved hW.alike hK, hDc.weaken (fun _ _ _ _ => trivial)⟩⟩ rfl rfl hl.1 rfl (lv_room (Nat.le_of_ble_eq_true rfl)) dX4_vanish_17 ⟨Nat.le_of_ble_eq_true rfl, Nat.le_of_ble_eq_true rfl⟩) hP hD hS hA ⟨rfl, rfl, rfl, rfl, rfl, rfl, rfl⟩ (fun H locs hP hD hS => ?_)
  generalize hs_3 : m_change qq wi ow s_2 = s_3 at hP hD ⊢
  refine lv_if_ne (tgt := 25) hx hb dX4_vanish_20 (by decide) (fun c_4 => ?_) (fun c_4 => ?_)
  · skip
    refine lv_aload_n hx hb dX4_vanish_25 rfl (lv_at hl 1 rfl) ?_
    refine va_get (D := D) (ci := 4) (v := .ref g4) (C := RX4) (T := TX4) (N := 20) hx hb hts hin4 hown hK hP 0 rfl rfl 7 (by decide) hf27 (fun _ h9 => h9) rfl dX4_vanish_26 ?_
    refine lv_iload_n hx hb dX4_vanish_29 rfl (lv_at hl 2 rfl) ?_
    refine lv_iconst (v := 0) hx hb dX4_vanish_30 (by decide) ?_
    refine va_iast hx hb hK hP hD hS 3 0 rfl rfl (z_ix hp (Nat.succ_le_succ hff) (by decide)) dX4_vanish_31 (fun H locs hP hD hS => ?_)
    rw [z_ic hp (Nat.succ_le_succ hff) (by decide)] at hP hD
    have hP : va_P D vwCl [(h0, .inr (4, [.int code, .int (zb (s_3.2.1).1), .int ((s_3.2.1).2.1), .int ((s_3.2.1).2.2.1), .ref g1, .ref g2, .ref g3, .ref g4, .ref g5, .ref g6, .int (zb (s_3.2.1).2.2.2), .int (zb wi), .int (zb mo), .int mv, .int fr, .int sh, .int gr, .int cp, .int ra, .int rl])), (g2, .inl (cI, 48, .inl s_3.2.2)), (g3, .inl (cI, 48, .inl s_2)), (g4, .inl (cI, 17, .inl (upd ki ff 0)))] H := hP
    have hD : va_D A [(h0, .inr (4, [.int code, .int (zb (s_3.2.1).1), .int ((s_3.2.1).2.1), .int ((s_3.2.1).2.2.1), .ref g1, .ref g2, .ref g3, .ref g4, .ref g5, .ref g6, .int (zb (s_3.2.1).2.2.2), .int (zb wi), .int (zb mo), .int mv, .int fr, .int sh, .int gr, .int cp, .int ra, .int rl])), (g2, .inl (cI, 48, .inl s_3.2.2)), (g3, .inl (cI, 48, .inl s_2)), (g4, .inl (cI, 17, .inl (upd ki ff 0)))] := hD
    refine lv_iload_n hx hb dX4_vanish_32 rfl (lv_at hl 0 rfl) ?_
    have hE : m_van qq wi ow nx ki p0 ff = (m_cnt ow p0 48, s_3.2.1, s_3.2.2, s_2, upd ki ff 0) := by subst hs_3 hs_2 hs_1; simp only [m_van, if_neg (z_b1f c_4)] <;> rfl
    have hPz : va_P D vwCl [(h0, .inr (4, [.int code, .int (zb ((m_van qq wi ow nx ki p0 ff).2.1).1), .int (((m_van qq wi ow nx ki p0 ff).2.1).2.1), .int (((m_van qq wi ow nx ki p0 ff).2.1).2.2.1), .ref g1, .ref g2, .ref g3, .ref g4, .ref g5, .ref g6, .int (zb ((m_van qq wi ow nx ki p0 ff).2.1).2.2.2), .int (zb wi), .int (zb mo), .int mv, .int fr, .int sh, .int gr, .int cp, .int ra, .int rl])), (g2, .inl (cI, 48, .inl ((m_van qq wi ow nx ki p0 ff).2.2.1))), (g3, .inl (cI, 48, .inl ((m_van qq wi ow nx ki p0 ff).2.2.2.1))), (g4, .inl (cI, 17, .inl ((m_van qq wi ow nx ki p0 ff).2.2.2.2)))] H := by rw [hE]; exact hP
    have hRr : m_cnt ow p0 48 = (m_van qq wi ow nx ki p0 ff).1 := by first | (rw [hE]; done) | (rw [hE]; rfl)
    exact W.iret (v := m_cnt ow p0 48) hx hb hr (fun t ht hW => ⟨⟨z_ret hRr, by rw [ht]; exact hPz⟩, hS.F ht⟩) hS.2.2 dX4_vanish_33
  · skip
    refine lv_iconst (v := -1) hx hb dX4_vanish_23 (by decide) ?_
    have hE : m_van qq wi ow nx ki p0 ff = (-1, s_3.2.1, s_3.2.2, s_2, ki) := by subst hs_3 hs_2 hs_1; simp only [m_van, if_pos (z_b0 c_4)] <;> rfl
    have hPz : va_P D vwCl [(h0, .inr (4, [.int code, .int (zb ((m_van qq wi ow nx ki p0 ff).2.1).1), .int (((m_van qq wi ow nx ki p0 ff).2.1).2.1), .int (((m_van qq wi ow nx ki p0 ff).2.1).2.2.1), .ref g1, .ref g2, .ref g3, .ref g4, .ref g5, .ref g6, .int (zb ((m_van qq wi ow nx ki p0 ff).2.1).2.2.2), .int (zb wi), .int (zb mo), .int mv, .int fr, .int sh, .int gr, .int cp, .int ra, .int rl])), (g2, .inl (cI, 48, .inl ((m_van qq wi ow nx ki p0 ff).2.2.1))), (g3, .inl (cI, 48, .inl ((m_van qq wi ow nx ki p0 ff).2.2.2.1))), (g4, .inl (cI, 17, .inl ((m_van qq wi ow nx ki p0 ff).2.2.2.2)))] H := by rw [hE]; exact hP
    have hRr : -1 = (m_van qq wi ow nx ki p0 ff).1 := by first | (rw [hE]; done) | (rw [hE]; rfl)
    exact W.iret (v := -1) hx hb hr (fun t ht hW => ⟨⟨z_ret hRr, by rw [ht]; exact hPz⟩, hS.F ht⟩) hS.2.2 dX4_vanish_24
theorem qd_X4_purge : yX4_purge.cls = RX4 ∧ yX4_purge.cls ≠ "java/lang/invoke/MethodHandle" ∧ yX4_purge.cls ≠ "java/lang/invoke/VarHandle" ∧ (parseMethodDescriptor yX4_purge.desc).map (fun d => d.parameters.length) = some 1 := by decide +kernel
set_option maxHeartbeats 400000 in
set_option maxRecDepth 100000 in
/-- purge -/
theorem c_X4_purge (l : Launch) (D : va_G) (cI : ClassId) (h0 : Nat) (g1 : Nat) (g2 : Nat) (g3 : Nat) (g4 : Nat) (g5 : Nat) (g6 : Nat) (code : Int32) (qq : zQ) (wi : Bool) (mo : Bool) (mv : Int32) (fr : Int32) (sh : Int32) (gr : Int32) (cp : Int32) (ra : Int32) (rl : Int32) (ow : zA) (nx : zA) (ki : zA) (ha : zA) (p0 : Int32) (sz : Nat) : Met l yX4_purge wsX4_purge ({ frames := 3, cells := 0, slots := 0, locals := 66 }) (z_Pw D cI [.ref h0, .int p0] [(h0, .inr (4, [.int code, .int (zb qq.1), .int qq.2.1, .int qq.2.2.1, .ref g1, .ref g2, .ref g3, .ref g4, .ref g5, .ref g6, .int (zb qq.2.2.2), .int (zb wi), .int (zb mo), .int mv, .int fr, .int sh, .int gr, .int cp, .int ra, .int rl])), (g2, .inl (cI, 48, .inl ow)), (g3, .inl (cI, 48, .inl nx)), (g4, .inl (cI, 17, .inl ki)), (g6, .inl (cI, 17, .inl ha))] sz) (z_Wo D (some (.int ((m_purge qq wi ow nx ki ha p0).1))) [(h0, .inr (4, [.int ((m_purge qq wi ow nx ki ha p0).2.1), .int (zb ((m_purge qq wi ow nx ki ha p0).2.2.1).1), .int (((m_purge qq wi ow nx ki ha p0).2.2.1).2.1), .int (((m_purge qq wi ow nx ki ha p0).2.2.1).2.2.1), .ref g1, .ref g2, .ref g3, .ref g4, .ref g5, .ref g6, .int (zb ((m_purge qq wi ow nx ki ha p0).2.2.1).2.2.2), .int (zb wi), .int (zb mo), .int mv, .int fr, .int sh, .int gr, .int cp, .int ra, .int rl])), (g2, .inl (cI, 48, .inl ((m_purge qq wi ow nx ki ha p0).2.2.2.1))), (g3, .inl (cI, 48, .inl ((m_purge qq wi ow nx ki ha p0).2.2.2.2.1))), (g4, .inl (cI, 17, .inl ((m_purge qq wi ow nx ki ha p0).2.2.2.2.2))), (g6, .inl (cI, 17, .inl ha))] (va_A [(h0, .inr (4, [.int code, .int (zb qq.1), .int qq.2.1, .int qq.2.2.1, .ref g1, .ref g2, .ref g3, .ref g4, .ref g5, .ref g6, .int (zb qq.2.2.2), .int (zb wi), .int (zb mo), .int mv, .int fr, .int sh, .int gr, .int cp, .int ra, .int rl])), (g2, .inl (cI, 48, .inl ow)), (g3, .inl (cI, 48, .inl nx)), (g4, .inl (cI, 17, .inl ki)), (g6, .inl (cI, 17, .inl ha))] sz)) 0 0 (va_A [(h0, .inr (4, [.int code, .int (zb qq.1), .int qq.2.1, .int qq.2.2.1, .ref g1, .ref g2, .ref g3, .ref g4, .ref g5, .ref g6, .int (zb qq.2.2.2), .int (zb wi), .int (zb mo), .int mv, .int fr, .int sh, .int gr, .int cp, .int ra, .int rl])), (g2, .inl (cI, 48, .inl ow)), (g3, .inl (cI, 48, .inl nx)), (g4, .inl (cI, 17, .inl ki)), (g6, .inl (cI, 17, .inl ha))] sz) := by
  refine Met.ofW (cc := cX4_purge) (maxL := 3) (ret := (some .int)) (by decide) rfl ?_
  intro p e s m args below meth c s₁ B hml hv
  obtain ⟨rfl, hsz, hP, hK, hD0⟩ := hv
  have hx := B.exec
  have hb := B.bytes
  have hr := B.returns
  have hts := atoms_spec (ws := wsX4_purge) B.pre
  have hown : s.vm.findClass RX4 = some m.cls := findClass_of_methodNamed B.named
  have hlocks := B.notSynchronized
  subst hsz
  have hD := hD0.self (sz := s.heap.size)
  generalize hAe : va_A [(h0, .inr (4, [.int code, .int (zb qq.1), .int qq.2.1, .int qq.2.2.1, .ref g1, .ref g2, .ref g3, .ref g4, .ref g5, .ref g6, .int (zb qq.2.2.2), .int (zb wi), .int (zb mo), .int mv, .int fr, .int sh, .int gr, .int cp, .int ra, .int rl])), (g2, .inl (cI, 48, .inl ow)), (g3, .inl (cI, 48, .inl nx)), (g4, .inl (cI, 17, .inl ki)), (g6, .inl (cI, 17, .inl ha))] s.heap.size = A at hD ⊢
  have hA : ∀ q : Nat, s.heap.size ≤ q → A q := fun q h => by rw [← hAe]; exact Or.inr h
  have hS : va_S A s.heap s.heap [] := va_S.rf
  have hP : va_P D vwCl [(h0, .inr (4, [.int code, .int (zb qq.1), .int qq.2.1, .int qq.2.2.1, .ref g1, .ref g2, .ref g3, .ref g4, .ref g5, .ref g6, .int (zb qq.2.2.2), .int (zb wi), .int (zb mo), .int mv, .int fr, .int sh, .int gr, .int cp, .int ra, .int rl])), (g2, .inl (cI, 48, .inl ow)), (g3, .inl (cI, 48, .inl nx)), (g4, .inl (cI, 17, .inl ki)), (g6, .inl (cI, 17, .inl ha))] s.heap := hP
  have hl := lv_entry ([.ref h0, .int p0]) (n := 3) (Nat.le_of_ble_eq_true rfl)
  rw [lg_entry_eq]
  generalize (lg_sl ([.ref h0, .int p0]) ++ List.replicate (3 - (lg_sl ([.ref h0, .int p0])).length) Slot.unset).toArray = ls at hl ⊢
  have hl : lv_has ls 3 [(0, .ref h0), (1, .int p0)] := hl
  refine z_start hP hS (fun H locs hP hS => ?_)
  have hin4 : ∀ w ∈ wsX40, w ∈ wsX4_purge := by decide +kernel
  have hf7 := hts (.fieldLink RX4 7 "SqueezedVolumeModel" "on" "Z") (by decide +kernel)
  have hf36 := hts (.fieldLink RX4 36 "SqueezedVolumeModel" "code" "I") (by decide +kernel)
  refine lv_aload_n hx hb dX4_purge_0 rfl (lv_at hl 0 rfl) ?_
  refine va_get (D := D) (ci := 4) (v := .int (zb qq.1)) (C := RX4) (T := TX4) (N := 20) hx hb hts hin4 hown hK hP 0 rfl rfl 1 (by decide) hf7 (fun _ h9 => h9) rfl dX4_purge_1 ?_
  refine lv_if_eq (tgt := 15) hx hb dX4_purge_4 (by decide) (fun c_1 => ?_) (fun c_1 => ?_)
  · skip
    refine lv_iconst (v := 0) hx hb dX4_purge_15 (by decide) ?_
    refine lv_istore_n (lv' := [(2, .int 0), (0, .ref h0), (1, .int p0)]) hx hb dX4_purge_16 rfl hl (by decide) rfl (fun ls hl => ?_)
    refine lv_aload_n hx hb dX4_purge_17 rfl (lv_at hl 1 rfl) ?_
    refine lv_aload_n hx hb dX4_purge_18 rfl (lv_at hl 1 rfl) ?_
    refine va_get (D := D) (ci := 4) (v := .int (zb qq.1)) (C := RX4) (T := TX4) (N := 20) hx hb hts hin4 hown hK hP 0 rfl rfl 1 (by decide) hf7 (fun _ h9 => h9) rfl dX4_purge_19 ?_
    refine lv_if_ne (tgt := 29) hx hb dX4_purge_22 (by decide) (fun c_2 => ?_) (fun c_2 => ?_)
    · skip
      exact absurd c_1 c_2
    · skip
      refine lv_iconst (v := 1) hx hb dX4_purge_25 (by decide) ?_
      refine lv_goto (tgt := 38) hx hb dX4_purge_26 (by decide) ?_
      refine va_put (D := D) (ci := 4) (v := .int 1) (ty := .int) (C := RX4) (T := TX4) (N := 20) hx hb hts hin4 tyX4 tyX4_ok nmX4 hown hK hP hD hS 0 rfl rfl 0 (by decide) hf36 (fun _ h9 => h9) rfl (by decide +kernel) rfl rfl (Nat.le_of_ble_eq_true rfl) dX4_purge_38 (fun H locs hP hD hS => ?_)
      have hP : va_P D vwCl [(h0, .inr (4, [.int 1, .int (zb qq.1), .int qq.2.1, .int qq.2.2.1, .ref g1, .ref g2, .ref g3, .ref g4, .ref g5, .ref g6, .int (zb qq.2.2.2), .int (zb wi), .int (zb mo), .int mv, .int fr, .int sh, .int gr, .int cp, .int ra, .int rl])), (g2, .inl (cI, 48, .inl ow)), (g3, .inl (cI, 48, .inl nx)), (g4, .inl (cI, 17, .inl ki)), (g6, .inl (cI, 17, .inl ha))] H := hP
      have hD : va_D A [(h0, .inr (4, [.int 1, .int (zb qq.1), .int qq.2.1, .int qq.2.2.1, .ref g1, .ref g2, .ref g3, .ref g4, .ref g5, .ref g6, .int (zb qq.2.2.2), .int (zb wi), .int (zb mo), .int mv, .int fr, .int sh, .int gr, .int cp, .int ra, .int rl])), (g2, .inl (cI, 48, .inl ow)), (g3, .inl (cI, 48, .inl nx)), (g4, .inl (cI, 17, .inl ki)), (g6, .inl (cI, 17, .inl ha))] := hD
      refine lv_aload_n hx hb dX4_purge_41 rfl (lv_at hl 1 rfl) ?_
      refine va_get (D := D) (ci := 4) (v := .int 1) (C := RX4) (T := TX4) (N := 20) hx hb hts hin4 hown hK hP 0 rfl rfl 0 (by decide) hf36 (fun _ h9 => h9) rfl dX4_purge_42 ?_
      refine lv_if_le (tgt := 52) hx hb dX4_purge_45 (by decide) (fun c_3 => ?_) (fun c_3 => ?_)
      · skip
        exact absurd c_3 (by decide)
      · skip
        refine lv_iconst (v := 0) hx hb dX4_purge_48 (by decide) ?_
        refine lv_goto (tgt := 57) hx hb dX4_purge_49 (by decide) ?_
        have hE : m_purge qq wi ow nx ki ha p0 = (0, 1, qq, ow, nx, ki) := by simp only [m_purge, if_pos (z_b0 c_1)] <;> rfl
        have hPz : va_P D vwCl [(h0, .inr (4, [.int ((m_purge qq wi ow nx ki ha p0).2.1), .int (zb ((m_purge qq wi ow nx ki ha p0).2.2.1).1), .int (((m_purge qq wi ow nx ki ha p0).2.2.1).2.1), .int (((m_purge qq wi ow nx ki ha p0).2.2.1).2.2.1), .ref g1, .ref g2, .ref g3, .ref g4, .ref g5, .ref g6, .int (zb ((m_purge qq wi ow nx ki ha p0).2.2.1).2.2.2), .int (zb wi), .int (zb mo), .int mv, .int fr, .int sh, .int gr, .int cp, .int ra, .int rl])), (g2, .inl (cI, 48, .inl ((m_purge qq wi ow nx ki ha p0).2.2.2.1))), (g3, .inl (cI, 48, .inl ((m_purge qq wi ow nx ki ha p0).2.2.2.2.1))), (g4, .inl (cI, 17, .inl ((m_purge qq wi ow nx ki ha p0).2.2.2.2.2))), (g6, .inl (cI, 17, .inl ha))] H := by rw [hE]; exact hP
        have hRr : 0 = (m_purge qq wi ow nx ki ha p0).1 := by first | (rw [hE]; done) | (rw [hE]; rfl)
        exact W.iret (v := 0) hx hb hr (fun t ht hW => ⟨⟨z_ret hRr, by rw [ht]; exact hPz⟩, hS.F ht⟩) hS.2.2 dX4_purge_57
  · skip
    refine lv_aload_n hx hb dX4_purge_7 rfl (lv_at hl 0 rfl) ?_
    refine lv_iload_n hx hb dX4_purge_8 rfl (lv_at hl 1 rfl) ?_
    refine z_callRi (va_runV (As := [.int p0]) (rest := []) ⟨hx, hb, hml, hown, hts⟩ (c_X4_byHandle l D cI h0 g1 g2 g3 g4 g5 g6 code qq wi mo mv fr sh gr cp ra rl ki ha p0) (cwV 1 hts gX4_purge_X4_byHandle rfl rfl rfl qd_X4_byHandle ⟨Nat.le_of_ble_eq_true rfl, Nat.le_of_ble_eq_true rfl⟩) ⟨z_Pr_blind, va_recv hK hP (ci := 4) (q0 := 0) rfl rfl, fun U hU hW => ⟨rfl, by rw [hU]; exact hP.sub (ws' := [(h0, .inr (4, [.int code, .int (zb qq.1), .int qq.2.1, .int qq.2.2.1, .ref g1, .ref g2, .ref g3, .ref g4, .ref g5, .ref g6, .int (zb qq.2.2.2), .int (zb wi), .int (zb mo), .int mv, .int fr, .int sh, .int gr, .int cp, .int ra, .int rl])), (g4, .inl (cI, 17, .inl ki)), (g6, .inl (cI, 17, .inl ha))]) [0, 3, 4] rfl, va_K.moved hW.alike hK⟩⟩ rfl rfl hl.1 rfl (lv_room (Nat.le_of_ble_eq_true rfl)) dX4_purge_9 ⟨Nat.le_of_ble_eq_true rfl, Nat.le_of_ble_eq_true rfl⟩) ?_
    refine lv_goto (tgt := 16) hx hb dX4_purge_12 (by decide) ?_
    refine lv_istore_n (lv' := [(2, .int (nI (m_hand ki ha p0))), (0, .ref h0), (1, .int p0)]) hx hb dX4_purge_16 rfl hl (by decide) rfl (fun ls hl => ?_)
    refine lv_aload_n hx hb dX4_purge_17 rfl (lv_at hl 1 rfl) ?_
    refine lv_aload_n hx hb dX4_purge_18 rfl (lv_at hl 1 rfl) ?_
    refine va_get (D := D) (ci := 4) (v := .int (zb qq.1)) (C := RX4) (T := TX4) (N := 20) hx hb hts hin4 hown hK hP 0 rfl rfl 1 (by decide) hf7 (fun _ h9 => h9) rfl dX4_purge_19 ?_
    refine lv_if_ne (tgt := 29) hx hb dX4_purge_22 (by decide) (fun c_4 => ?_) (fun c_4 => ?_)
    · skip
      refine lv_iload_n hx hb dX4_purge_29 rfl (lv_at hl 0 rfl) ?_
      refine lv_if_ne (tgt := 37) hx hb dX4_purge_30 (by decide) (fun c_5 => ?_) (fun c_5 => ?_)
      · skip
        refine lv_iconst (v := 0) hx hb dX4_purge_37 (by decide) ?_
        refine va_put (D := D) (ci := 4) (v := .int 0) (ty := .int) (C := RX4) (T := TX4) (N := 20) hx hb hts hin4 tyX4 tyX4_ok nmX4 hown hK hP hD hS 0 rfl rfl 0 (by decide) hf36 (fun _ h9 => h9) rfl (by decide +kernel) rfl rfl (Nat.le_of_ble_eq_true rfl) dX4_purge_38 (fun H locs hP hD hS => ?_)
        have hP : va_P D vwCl [(h0, .inr (4, [.int 0, .int (zb qq.1), .int qq.2.1, .int qq.2.2.1, .ref g1, .ref g2, .ref g3, .ref g4, .ref g5, .ref g6, .int (zb qq.2.2.2), .int (zb wi), .int (zb mo), .int mv, .int fr, .int sh, .int gr, .int cp, .int ra, .int rl])), (g2, .inl (cI, 48, .inl ow)), (g3, .inl (cI, 48, .inl nx)), (g4, .inl (cI, 17, .inl ki)), (g6, .inl (cI, 17, .inl ha))] H := hP
        have hD : va_D A [(h0, .inr (4, [.int 0, .int (zb qq.1), .int qq.2.1, .int qq.2.2.1, .ref g1, .ref g2, .ref g3, .ref g4, .ref g5, .ref g6, .int (zb qq.2.2.2), .int (zb wi), .int (zb mo), .int mv, .int fr, .int sh, .int gr, .int cp, .int ra, .int rl])), (g2, .inl (cI, 48, .inl ow)), (g3, .inl (cI, 48, .inl nx)), (g4, .inl (cI, 17, .inl ki)), (g6, .inl (cI, 17, .inl ha))] := hD
        refine lv_aload_n hx hb dX4_purge_41 rfl (lv_at hl 1 rfl) ?_
        refine va_get (D := D) (ci := 4) (v := .int 0) (C := RX4) (T := TX4) (N := 20) hx hb hts hin4 hown hK hP 0 rfl rfl 0 (by decide) hf36 (fun _ h9 => h9) rfl dX4_purge_42 ?_
        refine lv_if_le (tgt := 52) hx hb dX4_purge_45 (by decide) (fun c_6 => ?_) (fun c_6 => ?_)
        · skip
          refine lv_aload_n hx hb dX4_purge_52 rfl (lv_at hl 1 rfl) ?_
          refine lv_iload_n hx hb dX4_purge_53 rfl (lv_at hl 0 rfl) ?_
          have hPc : va_P D vwCl [(h0, .inr (4, [.int 0, .int (zb qq.1), .int qq.2.1, .int qq.2.2.1, .ref g1, .ref g2, .ref g3, .ref g4, .ref g5, .ref g6, .int (zb qq.2.2.2), .int (zb wi), .int (zb mo), .int mv, .int fr, .int sh, .int gr, .int cp, .int ra, .int rl])), (g2, .inl (cI, 48, .inl ow)), (g3, .inl (cI, 48, .inl nx)), (g4, .inl (cI, 17, .inl ki))] H := hP.sub [0, 1, 2, 3] rfl
          have hDc : va_D A [(h0, .inr (4, [.int 0, .int (zb qq.1), .int qq.2.1, .int qq.2.2.1, .ref g1, .ref g2, .ref g3, .ref g4, .ref g5, .ref g6, .int (zb qq.2.2.2), .int (zb wi), .int (zb mo), .int mv, .int fr, .int sh, .int gr, .int cp, .int ra, .int rl])), (g2, .inl (cI, 48, .inl ow)), (g3, .inl (cI, 48, .inl nx)), (g4, .inl (cI, 17, .inl ki))] := hD.sub [0, 1, 2, 3] (by decide) rfl
          refine z_callWi (ws' := [(h0, .inr (4, [.int 0, .int (zb ((m_van qq wi ow nx ki (nI (m_hand ki ha p0)) (m_hand ki ha p0)).2.1).1), .int (((m_van qq wi ow nx ki (nI (m_hand ki ha p0)) (m_hand ki ha p0)).2.1).2.1), .int (((m_van qq wi ow nx ki (nI (m_hand ki ha p0)) (m_hand ki ha p0)).2.1).2.2.1), .ref g1, .ref g2, .ref g3, .ref g4, .ref g5, .ref g6, .int (zb ((m_van qq wi ow nx ki (nI (m_hand ki ha p0)) (m_hand ki ha p0)).2.1).2.2.2), .int (zb wi), .int (zb mo), .int mv, .int fr, .int sh, .int gr, .int cp, .int ra, .int rl])), (g2, .inl (cI, 48, .inl ((m_van qq wi ow nx ki (nI (m_hand ki ha p0)) (m_hand ki ha p0)).2.2.1))), (g3, .inl (cI, 48, .inl ((m_van qq wi ow nx ki (nI (m_hand ki ha p0)) (m_hand ki ha p0)).2.2.2.1))), (g4, .inl (cI, 17, .inl ((m_van qq wi ow nx ki (nI (m_hand ki ha p0)) (m_hand ki ha p0)).2.2.2.2))), (g6, .inl (cI, 17, .inl ha))]) [0, 1, 2, 3] [4] [(g6, .inl (cI, 17, .inl ha))] [h0, g2, g3, g4, g6] (va_runV (As := [.int (nI (m_hand ki ha p0))]) (rest := []) ⟨hx, hb, hml, hown, hts⟩ (c_X4_vanish l D cI h0 g1 g2 g3 g4 g5 g6 0 qq wi mo mv fr sh gr cp ra rl ow nx ki (nI (m_hand ki ha p0)) (m_hand ki ha p0) H.size rfl (Nat.le_of_succ_le_succ (m_hand_17 _ _ _))) (cwV 1 hts gX4_purge_X4_vanish rfl rfl rfl qd_X4_vanish ⟨Nat.le_of_ble_eq_true rfl, Nat.le_of_ble_eq_true rfl⟩) ⟨z_Pw_blind, va_recv hK hP (ci := 4) (q0 := 0) rfl rfl, fun U hU hW => ⟨rfl, by rw [hU], by rw [hU]; exact hPc, va_K.moved hW.alike hK, hDc.weaken (fun _ _ _ _ => trivial)⟩⟩ rfl rfl hl.1 rfl (lv_room (Nat.le_of_ble_eq_true rfl)) dX4_purge_54 ⟨Nat.le_of_ble_eq_true rfl, Nat.le_of_ble_eq_true rfl⟩) hP hD hS hA ⟨rfl, rfl, rfl, rfl, rfl, rfl, rfl⟩ (fun H locs hP hD hS => ?_)
          generalize hs_7 : m_van qq wi ow nx ki (nI (m_hand ki ha p0)) (m_hand ki ha p0) = s_7 at hP hD ⊢
          have hE : m_purge qq wi ow nx ki ha p0 = (s_7.1, 0, s_7.2.1, s_7.2.2.1, s_7.2.2.2.1, s_7.2.2.2.2) := by subst hs_7; simp only [m_purge, if_neg (z_b1f c_1), if_neg c_5] <;> rfl
          have hPz : va_P D vwCl [(h0, .inr (4, [.int ((m_purge qq wi ow nx ki ha p0).2.1), .int (zb ((m_purge qq wi ow nx ki ha p0).2.2.1).1), .int (((m_purge qq wi ow nx ki ha p0).2.2.1).2.1), .int (((m_purge qq wi ow nx ki ha p0).2.2.1).2.2.1), .ref g1, .ref g2, .ref g3, .ref g4, .ref g5, .ref g6, .int (zb ((m_purge qq wi ow nx ki ha p0).2.2.1).2.2.2), .int (zb wi), .int (zb mo), .int mv, .int fr, .int sh, .int gr, .int cp, .int ra, .int rl])), (g2, .inl (cI, 48, .inl ((m_purge qq wi ow nx ki ha p0).2.2.2.1))), (g3, .inl (cI, 48, .inl ((m_purge qq wi ow nx ki ha p0).2.2.2.2.1))), (g4, .inl (cI, 17, .inl ((m_purge qq wi ow nx ki ha p0).2.2.2.2.2))), (g6, .inl (cI, 17, .inl ha))] H := by rw [hE]; exact hP
          have hRr : s_7.1 = (m_purge qq wi ow nx ki ha p0).1 := by first | (rw [hE]; done) | (rw [hE]; rfl)
          exact W.iret (v := s_7.1) hx hb hr (fun t ht hW => ⟨⟨z_ret hRr, by rw [ht]; exact hPz⟩, hS.F ht⟩) hS.2.2 dX4_purge_57
        · skip
          exact absurd (by decide) c_6
      · skip
        refine lv_iconst (v := 2) hx hb dX4_purge_33 (by decide) ?_
        refine lv_goto (tgt := 38) hx hb dX4_purge_34 (by decide) ?_
        refine va_put (D := D) (ci := 4) (v := .int 2) (ty := .int) (C := RX4) (T := TX4) (N := 20) hx hb hts hin4 tyX4 tyX4_ok nmX4 hown hK hP hD hS 0 rfl rfl 0 (by decide) hf36 (fun _ h9 => h9) rfl (by decide +kernel) rfl rfl (Nat.le_of_ble_eq_true rfl) dX4_purge_38 (fun H locs hP hD hS => ?_)
        have hP : va_P D vwCl [(h0, .inr (4, [.int 2, .int (zb qq.1), .int qq.2.1, .int qq.2.2.1, .ref g1, .ref g2, .ref g3, .ref g4, .ref g5, .ref g6, .int (zb qq.2.2.2), .int (zb wi), .int (zb mo), .int mv, .int fr, .int sh, .int gr, .int cp, .int ra, .int rl])), (g2, .inl (cI, 48, .inl ow)), (g3, .inl (cI, 48, .inl nx)), (g4, .inl (cI, 17, .inl ki)), (g6, .inl (cI, 17, .inl ha))] H := hP
        have hD : va_D A [(h0, .inr (4, [.int 2, .int (zb qq.1), .int qq.2.1, .int qq.2.2.1, .ref g1, .ref g2, .ref g3, .ref g4, .ref g5, .ref g6, .int (zb qq.2.2.2), .int (zb wi), .int (zb mo), .int mv, .int fr, .int sh, .int gr, .int cp, .int ra, .int rl])), (g2, .inl (cI, 48, .inl ow)), (g3, .inl (cI, 48, .inl nx)), (g4, .inl (cI, 17, .inl ki)), (g6, .inl (cI, 17, .inl ha))] := hD
        refine lv_aload_n hx hb dX4_purge_41 rfl (lv_at hl 1 rfl) ?_
        refine va_get (D := D) (ci := 4) (v := .int 2) (C := RX4) (T := TX4) (N := 20) hx hb hts hin4 hown hK hP 0 rfl rfl 0 (by decide) hf36 (fun _ h9 => h9) rfl dX4_purge_42 ?_
        refine lv_if_le (tgt := 52) hx hb dX4_purge_45 (by decide) (fun c_8 => ?_) (fun c_8 => ?_)
        · skip
          exact absurd c_8 (by decide)
        · skip
          refine lv_iconst (v := 0) hx hb dX4_purge_48 (by decide) ?_
          refine lv_goto (tgt := 57) hx hb dX4_purge_49 (by decide) ?_
          have hE : m_purge qq wi ow nx ki ha p0 = (0, 2, qq, ow, nx, ki) := by simp only [m_purge, if_neg (z_b1f c_1), if_pos c_5] <;> rfl
          have hPz : va_P D vwCl [(h0, .inr (4, [.int ((m_purge qq wi ow nx ki ha p0).2.1), .int (zb ((m_purge qq wi ow nx ki ha p0).2.2.1).1), .int (((m_purge qq wi ow nx ki ha p0).2.2.1).2.1), .int (((m_purge qq wi ow nx ki ha p0).2.2.1).2.2.1), .ref g1, .ref g2, .ref g3, .ref g4, .ref g5, .ref g6, .int (zb ((m_purge qq wi ow nx ki ha p0).2.2.1).2.2.2), .int (zb wi), .int (zb mo), .int mv, .int fr, .int sh, .int gr, .int cp, .int ra, .int rl])), (g2, .inl (cI, 48, .inl ((m_purge qq wi ow nx ki ha p0).2.2.2.1))), (g3, .inl (cI, 48, .inl ((m_purge qq wi ow nx ki ha p0).2.2.2.2.1))), (g4, .inl (cI, 17, .inl ((m_purge qq wi ow nx ki ha p0).2.2.2.2.2))), (g6, .inl (cI, 17, .inl ha))] H := by rw [hE]; exact hP
          have hRr : 0 = (m_purge qq wi ow nx ki ha p0).1 := by first | (rw [hE]; done) | (rw [hE]; rfl)
          exact W.iret (v := 0) hx hb hr (fun t ht hW => ⟨⟨z_ret hRr, by rw [ht]; exact hPz⟩, hS.F ht⟩) hS.2.2 dX4_purge_57
    · skip
      exact absurd c_4 c_1
theorem qd_X4_delete : yX4_delete.cls = RX4 ∧ yX4_delete.cls ≠ "java/lang/invoke/MethodHandle" ∧ yX4_delete.cls ≠ "java/lang/invoke/VarHandle" ∧ (parseMethodDescriptor yX4_delete.desc).map (fun d => d.parameters.length) = some 1 := by decide +kernel
set_option maxHeartbeats 400000 in
set_option maxRecDepth 100000 in
/-- delete -/
theorem c_X4_delete (l : Launch) (D : va_G) (cI : ClassId) (h0 : Nat) (g1 : Nat) (g2 : Nat) (g3 : Nat) (g4 : Nat) (g5 : Nat) (g6 : Nat) (code : Int32) (qq : zQ) (wi : Bool) (mo : Bool) (mv : Int32) (fr : Int32) (sh : Int32) (gr : Int32) (cp : Int32) (ra : Int32) (rl : Int32) (ow : zA) (nx : zA) (ki : zA) (na : zA) (p0 : Int32) (sz : Nat) : Met l yX4_delete wsX4_delete ({ frames := 3, cells := 0, slots := 0, locals := 66 }) (z_Pw D cI [.ref h0, .int p0] [(h0, .inr (4, [.int code, .int (zb qq.1), .int qq.2.1, .int qq.2.2.1, .ref g1, .ref g2, .ref g3, .ref g4, .ref g5, .ref g6, .int (zb qq.2.2.2), .int (zb wi), .int (zb mo), .int mv, .int fr, .int sh, .int gr, .int cp, .int ra, .int rl])), (g2, .inl (cI, 48, .inl ow)), (g3, .inl (cI, 48, .inl nx)), (g4, .inl (cI, 17, .inl ki)), (g5, .inl (cI, 17, .inl na))] sz) (z_Wo D (some (.int ((m_delete qq wi ow nx ki na p0).1))) [(h0, .inr (4, [.int ((m_delete qq wi ow nx ki na p0).2.1), .int (zb ((m_delete qq wi ow nx ki na p0).2.2.1).1), .int (((m_delete qq wi ow nx ki na p0).2.2.1).2.1), .int (((m_delete qq wi ow nx ki na p0).2.2.1).2.2.1), .ref g1, .ref g2, .ref g3, .ref g4, .ref g5, .ref g6, .int (zb ((m_delete qq wi ow nx ki na p0).2.2.1).2.2.2), .int (zb wi), .int (zb mo), .int mv, .int fr, .int sh, .int gr, .int cp, .int ra, .int rl])), (g2, .inl (cI, 48, .inl ((m_delete qq wi ow nx ki na p0).2.2.2.1))), (g3, .inl (cI, 48, .inl ((m_delete qq wi ow nx ki na p0).2.2.2.2.1))), (g4, .inl (cI, 17, .inl ((m_delete qq wi ow nx ki na p0).2.2.2.2.2))), (g5, .inl (cI, 17, .inl na))] (va_A [(h0, .inr (4, [.int code, .int (zb qq.1), .int qq.2.1, .int qq.2.2.1, .ref g1, .ref g2, .ref g3, .ref g4, .ref g5, .ref g6, .int (zb qq.2.2.2), .int (zb wi), .int (zb mo), .int mv, .int fr, .int sh, .int gr, .int cp, .int ra, .int rl])), (g2, .inl (cI, 48, .inl ow)), (g3, .inl (cI, 48, .inl nx)), (g4, .inl (cI, 17, .inl ki)), (g5, .inl (cI, 17, .inl na))] sz)) 0 0 (va_A [(h0, .inr (4, [.int code, .int (zb qq.1), .int qq.2.1, .int qq.2.2.1, .ref g1, .ref g2, .ref g3, .ref g4, .ref g5, .ref g6, .int (zb qq.2.2.2), .int (zb wi), .int (zb mo), .int mv, .int fr, .int sh, .int gr, .int cp, .int ra, .int rl])), (g2, .inl (cI, 48, .inl ow)), (g3, .inl (cI, 48, .inl nx)), (g4, .inl (cI, 17, .inl ki)), (g5, .inl (cI, 17, .inl na))] sz) := by
  refine Met.ofW (cc := cX4_delete) (maxL := 3) (ret := (some .int)) (by decide) rfl ?_
  intro p e s m args below meth c s₁ B hml hv
  obtain ⟨rfl, hsz, hP, hK, hD0⟩ := hv
  have hx := B.exec
  have hb := B.bytes
  have hr := B.returns
  have hts := atoms_spec (ws := wsX4_delete) B.pre
  have hown : s.vm.findClass RX4 = some m.cls := findClass_of_methodNamed B.named
  have hlocks := B.notSynchronized
  subst hsz
  have hD := hD0.self (sz := s.heap.size)
  generalize hAe : va_A [(h0, .inr (4, [.int code, .int (zb qq.1), .int qq.2.1, .int qq.2.2.1, .ref g1, .ref g2, .ref g3, .ref g4, .ref g5, .ref g6, .int (zb qq.2.2.2), .int (zb wi), .int (zb mo), .int mv, .int fr, .int sh, .int gr, .int cp, .int ra, .int rl])), (g2, .inl (cI, 48, .inl ow)), (g3, .inl (cI, 48, .inl nx)), (g4, .inl (cI, 17, .inl ki)), (g5, .inl (cI, 17, .inl na))] s.heap.size = A at hD ⊢
  have hA : ∀ q : Nat, s.heap.size ≤ q → A q := fun q h => by rw [← hAe]; exact Or.inr h
  have hS : va_S A s.heap s.heap [] := va_S.rf
  have hP : va_P D vwCl [(h0, .inr (4, [.int code, .int (zb qq.1), .int qq.2.1, .int qq.2.2.1, .ref g1, .ref g2, .ref g3, .ref g4, .ref g5, .ref g6, .int (zb qq.2.2.2), .int (zb wi), .int (zb mo), .int mv, .int fr, .int sh, .int gr, .int cp, .int ra, .int rl])), (g2, .inl (cI, 48, .inl ow)), (g3, .inl (cI, 48, .inl nx)), (g4, .inl (cI, 17, .inl ki)), (g5, .inl (cI, 17, .inl na))] s.heap := hP
  have hl := lv_entry ([.ref h0, .int p0]) (n := 3) (Nat.le_of_ble_eq_true rfl)
  rw [lg_entry_eq]
  generalize (lg_sl ([.ref h0, .int p0]) ++ List.replicate (3 - (lg_sl ([.ref h0, .int p0])).length) Slot.unset).toArray = ls at hl ⊢
  have hl : lv_has ls 3 [(0, .ref h0), (1, .int p0)] := hl
  refine z_start hP hS (fun H locs hP hS => ?_)
  have hin4 : ∀ w ∈ wsX40, w ∈ wsX4_delete := by decide +kernel
  have hf7 := hts (.fieldLink RX4 7 "SqueezedVolumeModel" "on" "Z") (by decide +kernel)
  have hf36 := hts (.fieldLink RX4 36 "SqueezedVolumeModel" "code" "I") (by decide +kernel)
  refine lv_aload_n hx hb dX4_delete_0 rfl (lv_at hl 0 rfl) ?_
  refine va_get (D := D) (ci := 4) (v := .int (zb qq.1)) (C := RX4) (T := TX4) (N := 20) hx hb hts hin4 hown hK hP 0 rfl rfl 1 (by decide) hf7 (fun _ h9 => h9) rfl dX4_delete_1 ?_
  refine lv_if_eq (tgt := 15) hx hb dX4_delete_4 (by decide) (fun c_1 => ?_) (fun c_1 => ?_)
  · skip
    refine lv_iconst (v := 0) hx hb dX4_delete_15 (by decide) ?_
    refine lv_istore_n (lv' := [(2, .int 0), (0, .ref h0), (1, .int p0)]) hx hb dX4_delete_16 rfl hl (by decide) rfl (fun ls hl => ?_)
    refine lv_aload_n hx hb dX4_delete_17 rfl (lv_at hl 1 rfl) ?_
    refine lv_aload_n hx hb dX4_delete_18 rfl (lv_at hl 1 rfl) ?_
    refine va_get (D := D) (ci := 4) (v := .int (zb qq.1)) (C := RX4) (T := TX4) (N := 20) hx hb hts hin4 hown hK hP 0 rfl rfl 1 (by decide) hf7 (fun _ h9 => h9) rfl dX4_delete_19 ?_
    refine lv_if_ne (tgt := 29) hx hb dX4_delete_22 (by decide) (fun c_2 => ?_) (fun c_2 => ?_)
    · skip
      exact absurd c_1 c_2
    · skip
      refine lv_iconst (v := 1) hx hb dX4_delete_25 (by decide) ?_
      refine lv_goto (tgt := 38) hx hb dX4_delete_26 (by decide) ?_
      refine va_put (D := D) (ci := 4) (v := .int 1) (ty := .int) (C := RX4) (T := TX4) (N := 20) hx hb hts hin4 tyX4 tyX4_ok nmX4 hown hK hP hD hS 0 rfl rfl 0 (by decide) hf36 (fun _ h9 => h9) rfl (by decide +kernel) rfl rfl (Nat.le_of_ble_eq_true rfl) dX4_delete_38 (fun H locs hP hD hS => ?_)
      have hP : va_P D vwCl [(h0, .inr (4, [.int 1, .int (zb qq.1), .int qq.2.1, .int qq.2.2.1, .ref g1, .ref g2, .ref g3, .ref g4, .ref g5, .ref g6, .int (zb qq.2.2.2), .int (zb wi), .int (zb mo), .int mv, .int fr, .int sh, .int gr, .int cp, .int ra, .int rl])), (g2, .inl (cI, 48, .inl ow)), (g3, .inl (cI, 48, .inl nx)), (g4, .inl (cI, 17, .inl ki)), (g5, .inl (cI, 17, .inl na))] H := hP
      have hD : va_D A [(h0, .inr (4, [.int 1, .int (zb qq.1), .int qq.2.1, .int qq.2.2.1, .ref g1, .ref g2, .ref g3, .ref g4, .ref g5, .ref g6, .int (zb qq.2.2.2), .int (zb wi), .int (zb mo), .int mv, .int fr, .int sh, .int gr, .int cp, .int ra, .int rl])), (g2, .inl (cI, 48, .inl ow)), (g3, .inl (cI, 48, .inl nx)), (g4, .inl (cI, 17, .inl ki)), (g5, .inl (cI, 17, .inl na))] := hD
      refine lv_aload_n hx hb dX4_delete_41 rfl (lv_at hl 1 rfl) ?_
      refine va_get (D := D) (ci := 4) (v := .int 1) (C := RX4) (T := TX4) (N := 20) hx hb hts hin4 hown hK hP 0 rfl rfl 0 (by decide) hf36 (fun _ h9 => h9) rfl dX4_delete_42 ?_
      refine lv_if_le (tgt := 52) hx hb dX4_delete_45 (by decide) (fun c_3 => ?_) (fun c_3 => ?_)
      · skip
        exact absurd c_3 (by decide)
      · skip
        refine lv_iconst (v := 0) hx hb dX4_delete_48 (by decide) ?_
        refine lv_goto (tgt := 57) hx hb dX4_delete_49 (by decide) ?_
        have hE : m_delete qq wi ow nx ki na p0 = (0, 1, qq, ow, nx, ki) := by simp only [m_delete, if_pos (z_b0 c_1)] <;> rfl
        have hPz : va_P D vwCl [(h0, .inr (4, [.int ((m_delete qq wi ow nx ki na p0).2.1), .int (zb ((m_delete qq wi ow nx ki na p0).2.2.1).1), .int (((m_delete qq wi ow nx ki na p0).2.2.1).2.1), .int (((m_delete qq wi ow nx ki na p0).2.2.1).2.2.1), .ref g1, .ref g2, .ref g3, .ref g4, .ref g5, .ref g6, .int (zb ((m_delete qq wi ow nx ki na p0).2.2.1).2.2.2), .int (zb wi), .int (zb mo), .int mv, .int fr, .int sh, .int gr, .int cp, .int ra, .int rl])), (g2, .inl (cI, 48, .inl ((m_delete qq wi ow nx ki na p0).2.2.2.1))), (g3, .inl (cI, 48, .inl ((m_delete qq wi ow nx ki na p0).2.2.2.2.1))), (g4, .inl (cI, 17, .inl ((m_delete qq wi ow nx ki na p0).2.2.2.2.2))), (g5, .inl (cI, 17, .inl na))] H := by rw [hE]; exact hP
        have hRr : 0 = (m_delete qq wi ow nx ki na p0).1 := by first | (rw [hE]; done) | (rw [hE]; rfl)
        exact W.iret (v := 0) hx hb hr (fun t ht hW => ⟨⟨z_ret hRr, by rw [ht]; exact hPz⟩, hS.F ht⟩) hS.2.2 dX4_delete_57
  · skip
    refine lv_aload_n hx hb dX4_delete_7 rfl (lv_at hl 0 rfl) ?_
    refine lv_iload_n hx hb dX4_delete_8 rfl (lv_at hl 1 rfl) ?_
    refine z_callRi (va_runV (As := [.int p0]) (rest := []) ⟨hx, hb, hml, hown, hts⟩ (c_X4_permanent l D cI h0 g1 g2 g3 g4 g5 g6 code qq wi mo mv fr sh gr cp ra rl ki na p0) (cwV 1 hts gX4_delete_X4_permanent rfl rfl rfl qd_X4_permanent ⟨Nat.le_of_ble_eq_true rfl, Nat.le_of_ble_eq_true rfl⟩) ⟨z_Pr_blind, va_recv hK hP (ci := 4) (q0 := 0) rfl rfl, fun U hU hW => ⟨rfl, by rw [hU]; exact hP.sub (ws' := [(h0, .inr (4, [.int code, .int (zb qq.1), .int qq.2.1, .int qq.2.2.1, .ref g1, .ref g2, .ref g3, .ref g4, .ref g5, .ref g6, .int (zb qq.2.2.2), .int (zb wi), .int (zb mo), .int mv, .int fr, .int sh, .int gr, .int cp, .int ra, .int rl])), (g4, .inl (cI, 17, .inl ki)), (g5, .inl (cI, 17, .inl na))]) [0, 3, 4] rfl, va_K.moved hW.alike hK⟩⟩ rfl rfl hl.1 rfl (lv_room (Nat.le_of_ble_eq_true rfl)) dX4_delete_9 ⟨Nat.le_of_ble_eq_true rfl, Nat.le_of_ble_eq_true rfl⟩) ?_
    refine lv_goto (tgt := 16) hx hb dX4_delete_12 (by decide) ?_
    refine lv_istore_n (lv' := [(2, .int (nI (m_perm ki na p0))), (0, .ref h0), (1, .int p0)]) hx hb dX4_delete_16 rfl hl (by decide) rfl (fun ls hl => ?_)
    refine lv_aload_n hx hb dX4_delete_17 rfl (lv_at hl 1 rfl) ?_
    refine lv_aload_n hx hb dX4_delete_18 rfl (lv_at hl 1 rfl) ?_
    refine va_get (D := D) (ci := 4) (v := .int (zb qq.1)) (C := RX4) (T := TX4) (N := 20) hx hb hts hin4 hown hK hP 0 rfl rfl 1 (by decide) hf7 (fun _ h9 => h9) rfl dX4_delete_19 ?_
    refine lv_if_ne (tgt := 29) hx hb dX4_delete_22 (by decide) (fun c_4 => ?_) (fun c_4 => ?_)
    · skip
      refine lv_iload_n hx hb dX4_delete_29 rfl (lv_at hl 0 rfl) ?_
      refine lv_if_ne (tgt := 37) hx hb dX4_delete_30 (by decide) (fun c_5 => ?_) (fun c_5 => ?_)
      · skip
        refine lv_iconst (v := 0) hx hb dX4_delete_37 (by decide) ?_
        refine va_put (D := D) (ci := 4) (v := .int 0) (ty := .int) (C := RX4) (T := TX4) (N := 20) hx hb hts hin4 tyX4 tyX4_ok nmX4 hown hK hP hD hS 0 rfl rfl 0 (by decide) hf36 (fun _ h9 => h9) rfl (by decide +kernel) rfl rfl (Nat.le_of_ble_eq_true rfl) dX4_delete_38 (fun H locs hP hD hS => ?_)
        have hP : va_P D vwCl [(h0, .inr (4, [.int 0, .int (zb qq.1), .int qq.2.1, .int qq.2.2.1, .ref g1, .ref g2, .ref g3, .ref g4, .ref g5, .ref g6, .int (zb qq.2.2.2), .int (zb wi), .int (zb mo), .int mv, .int fr, .int sh, .int gr, .int cp, .int ra, .int rl])), (g2, .inl (cI, 48, .inl ow)), (g3, .inl (cI, 48, .inl nx)), (g4, .inl (cI, 17, .inl ki)), (g5, .inl (cI, 17, .inl na))] H := hP
        have hD : va_D A [(h0, .inr (4, [.int 0, .int (zb qq.1), .int qq.2.1, .int qq.2.2.1, .ref g1, .ref g2, .ref g3, .ref g4, .ref g5, .ref g6, .int (zb qq.2.2.2), .int (zb wi), .int (zb mo), .int mv, .int fr, .int sh, .int gr, .int cp, .int ra, .int rl])), (g2, .inl (cI, 48, .inl ow)), (g3, .inl (cI, 48, .inl nx)), (g4, .inl (cI, 17, .inl ki)), (g5, .inl (cI, 17, .inl na))] := hD
        refine lv_aload_n hx hb dX4_delete_41 rfl (lv_at hl 1 rfl) ?_
        refine va_get (D := D) (ci := 4) (v := .int 0) (C := RX4) (T := TX4) (N := 20) hx hb hts hin4 hown hK hP 0 rfl rfl 0 (by decide) hf36 (fun _ h9 => h9) rfl dX4_delete_42 ?_
        refine lv_if_le (tgt := 52) hx hb dX4_delete_45 (by decide) (fun c_6 => ?_) (fun c_6 => ?_)
        · skip
          refine lv_aload_n hx hb dX4_delete_52 rfl (lv_at hl 1 rfl) ?_
          refine lv_iload_n hx hb dX4_delete_53 rfl (lv_at hl 0 rfl) ?_
          have hPc : va_P D vwCl [(h0, .inr (4, [.int 0, .int (zb qq.1), .int qq.2.1, .int qq.2.2.1, .ref g1, .ref g2, .ref g3, .ref g4, .ref g5, .ref g6, .int (zb qq.2.2.2), .int (zb wi), .int (zb mo), .int mv, .int fr, .int sh, .int gr, .int cp, .int ra, .int rl])), (g2, .inl (cI, 48, .inl ow)), (g3, .inl (cI, 48, .inl nx)), (g4, .inl (cI, 17, .inl ki))] H := hP.sub [0, 1, 2, 3] rfl
          have hDc : va_D A [(h0, .inr (4, [.int 0, .int (zb qq.1), .int qq.2.1, .int qq.2.2.1, .ref g1, .ref g2, .ref g3, .ref g4, .ref g5, .ref g6, .int (zb qq.2.2.2), .int (zb wi), .int (zb mo), .int mv, .int fr, .int sh, .int gr, .int cp, .int ra, .int rl])), (g2, .inl (cI, 48, .inl ow)), (g3, .inl (cI, 48, .inl nx)), (g4, .inl (cI, 17, .inl ki))] := hD.sub [0, 1, 2, 3] (by decide) rfl
          refine z_callWi (ws' := [(h0, .inr (4, [.int 0, .int (zb ((m_van qq wi ow nx ki (nI (m_perm ki na p0)) (m_perm ki na p0)).2.1).1), .int (((m_van qq wi ow nx ki (nI (m_perm ki na p0)) (m_perm ki na p0)).2.1).2.1), .int (((m_van qq wi ow nx ki (nI (m_perm ki na p0)) (m_perm ki na p0)).2.1).2.2.1), .ref g1, .ref g2, .ref g3, .ref g4, .ref g5, .ref g6, .int (zb ((m_van qq wi ow nx ki (nI (m_perm ki na p0)) (m_perm ki na p0)).2.1).2.2.2), .int (zb wi), .int (zb mo), .int mv, .int fr, .int sh, .int gr, .int cp, .int ra, .int rl])), (g2, .inl (cI, 48, .inl ((m_van qq wi ow nx ki (nI (m_perm ki na p0)) (m_perm ki na p0)).2.2.1))), (g3, .inl (cI, 48, .inl ((m_van qq wi ow nx ki (nI (m_perm ki na p0)) (m_perm ki na p0)).2.2.2.1))), (g4, .inl (cI, 17, .inl ((m_van qq wi ow nx ki (nI (m_perm ki na p0)) (m_perm ki na p0)).2.2.2.2))), (g5, .inl (cI, 17, .inl na))]) [0, 1, 2, 3] [4] [(g5, .inl (cI, 17, .inl na))] [h0, g2, g3, g4, g5] (va_runV (As := [.int (nI (m_perm ki na p0))]) (rest := []) ⟨hx, hb, hml, hown, hts⟩ (c_X4_vanish l D cI h0 g1 g2 g3 g4 g5 g6 0 qq wi mo mv fr sh gr cp ra rl ow nx ki (nI (m_perm ki na p0)) (m_perm ki na p0) H.size rfl (Nat.le_of_succ_le_succ (m_perm_17 _ _ _))) (cwV 1 hts gX4_delete_X4_vanish rfl rfl rfl qd_X4_vanish ⟨Nat.le_of_ble_eq_true rfl, Nat.le_of_ble_eq_true rfl⟩) ⟨z_Pw_blind, va_recv hK hP (ci := 4) (q0 := 0) rfl rfl, fun U hU hW => ⟨rfl, by rw [hU], by rw [hU]; exact hPc, va_K.moved hW.alike hK, hDc.weaken (fun _ _ _ _ => trivial)⟩⟩ rfl rfl hl.1 rfl (lv_room (Nat.le_of_ble_eq_true rfl)) dX4_delete_54 ⟨Nat.le_of_ble_eq_true rfl, Nat.le_of_ble_eq_true rfl⟩) hP hD hS hA ⟨rfl, rfl, rfl, rfl, rfl, rfl, rfl⟩ (fun H locs hP hD hS => ?_)
          generalize hs_7 : m_van qq wi ow nx ki (nI (m_perm ki na p0)) (m_perm ki na p0) = s_7 at hP hD ⊢
          have hE : m_delete qq wi ow nx ki na p0 = (s_7.1, 0, s_7.2.1, s_7.2.2.1, s_7.2.2.2.1, s_7.2.2.2.2) := by subst hs_7; simp only [m_delete, if_neg (z_b1f c_1), if_neg c_5] <;> rfl
          have hPz : va_P D vwCl [(h0, .inr (4, [.int ((m_delete qq wi ow nx ki na p0).2.1), .int (zb ((m_delete qq wi ow nx ki na p0).2.2.1).1), .int (((m_delete qq wi ow nx ki na p0).2.2.1).2.1), .int (((m_delete qq wi ow nx ki na p0).2.2.1).2.2.1), .ref g1, .ref g2, .ref g3, .ref g4, .ref g5, .ref g6, .int (zb ((m_delete qq wi ow nx ki na p0).2.2.1).2.2.2), .int (zb wi), .int (zb mo), .int mv, .int fr, .int sh, .int gr, .int cp, .int ra, .int rl])), (g2, .inl (cI, 48, .inl ((m_delete qq wi ow nx ki na p0).2.2.2.1))), (g3, .inl (cI, 48, .inl ((m_delete qq wi ow nx ki na p0).2.2.2.2.1))), (g4, .inl (cI, 17, .inl ((m_delete qq wi ow nx ki na p0).2.2.2.2.2))), (g5, .inl (cI, 17, .inl na))] H := by rw [hE]; exact hP
          have hRr : s_7.1 = (m_delete qq wi ow nx ki na p0).1 := by first | (rw [hE]; done) | (rw [hE]; rfl)
          exact W.iret (v := s_7.1) hx hb hr (fun t ht hW => ⟨⟨z_ret hRr, by rw [ht]; exact hPz⟩, hS.F ht⟩) hS.2.2 dX4_delete_57
        · skip
          exact absurd (by decide) c_6
      · skip
        refine lv_iconst (v := 2) hx hb dX4_delete_33 (by decide) ?_
        refine lv_goto (tgt := 38) hx hb dX4_delete_34 (by decide) ?_
        refine va_put (D := D) (ci := 4) (v := .int 2) (ty := .int) (C := RX4) (T := TX4) (N := 20) hx hb hts hin4 tyX4 tyX4_ok nmX4 hown hK hP hD hS 0 rfl rfl 0 (by decide) hf36 (fun _ h9 => h9) rfl (by decide +kernel) rfl rfl (Nat.le_of_ble_eq_true rfl) dX4_delete_38 (fun H locs hP hD hS => ?_)
        have hP : va_P D vwCl [(h0, .inr (4, [.int 2, .int (zb qq.1), .int qq.2.1, .int qq.2.2.1, .ref g1, .ref g2, .ref g3, .ref g4, .ref g5, .ref g6, .int (zb qq.2.2.2), .int (zb wi), .int (zb mo), .int mv, .int fr, .int sh, .int gr, .int cp, .int ra, .int rl])), (g2, .inl (cI, 48, .inl ow)), (g3, .inl (cI, 48, .inl nx)), (g4, .inl (cI, 17, .inl ki)), (g5, .inl (cI, 17, .inl na))] H := hP
        have hD : va_D A [(h0, .inr (4, [.int 2, .int (zb qq.1), .int qq.2.1, .int qq.2.2.1, .ref g1, .ref g2, .ref g3, .ref g4, .ref g5, .ref g6, .int (zb qq.2.2.2), .int (zb wi), .int (zb mo), .int mv, .int fr, .int sh, .int gr, .int cp, .int ra, .int rl])), (g2, .inl (cI, 48, .inl ow)), (g3, .inl (cI, 48, .inl nx)), (g4, .inl (cI, 17, .inl ki)), (g5, .inl (cI, 17, .inl na))] := hD
        refine lv_aload_n hx hb dX4_delete_41 rfl (lv_at hl 1 rfl) ?_
        refine va_get (D := D) (ci := 4) (v := .int 2) (C := RX4) (T := TX4) (N := 20) hx hb hts hin4 hown hK hP 0 rfl rfl 0 (by decide) hf36 (fun _ h9 => h9) rfl dX4_delete_42 ?_
        refine lv_if_le (tgt := 52) hx hb dX4_delete_45 (by decide) (fun c_8 => ?_) (fun c_8 => ?_)
        · skip
          exact absurd c_8 (by decide)
        · skip
          refine lv_iconst (v := 0) hx hb dX4_delete_48 (by decide) ?_
          refine lv_goto (tgt := 57) hx hb dX4_delete_49 (by decide) ?_
          have hE : m_delete qq wi ow nx ki na p0 = (0, 2, qq, ow, nx, ki) := by simp only [m_delete, if_neg (z_b1f c_1), if_pos c_5] <;> rfl
          have hPz : va_P D vwCl [(h0, .inr (4, [.int ((m_delete qq wi ow nx ki na p0).2.1), .int (zb ((m_delete qq wi ow nx ki na p0).2.2.1).1), .int (((m_delete qq wi ow nx ki na p0).2.2.1).2.1), .int (((m_delete qq wi ow nx ki na p0).2.2.1).2.2.1), .ref g1, .ref g2, .ref g3, .ref g4, .ref g5, .ref g6, .int (zb ((m_delete qq wi ow nx ki na p0).2.2.1).2.2.2), .int (zb wi), .int (zb mo), .int mv, .int fr, .int sh, .int gr, .int cp, .int ra, .int rl])), (g2, .inl (cI, 48, .inl ((m_delete qq wi ow nx ki na p0).2.2.2.1))), (g3, .inl (cI, 48, .inl ((m_delete qq wi ow nx ki na p0).2.2.2.2.1))), (g4, .inl (cI, 17, .inl ((m_delete qq wi ow nx ki na p0).2.2.2.2.2))), (g5, .inl (cI, 17, .inl na))] H := by rw [hE]; exact hP
          have hRr : 0 = (m_delete qq wi ow nx ki na p0).1 := by first | (rw [hE]; done) | (rw [hE]; rfl)
          exact W.iret (v := 0) hx hb hr (fun t ht hW => ⟨⟨z_ret hRr, by rw [ht]; exact hPz⟩, hS.F ht⟩) hS.2.2 dX4_delete_57
    · skip
      exact absurd c_4 c_1
theorem qd_X4_rename : yX4_rename.cls = RX4 ∧ yX4_rename.cls ≠ "java/lang/invoke/MethodHandle" ∧ yX4_rename.cls ≠ "java/lang/invoke/VarHandle" ∧ (parseMethodDescriptor yX4_rename.desc).map (fun d => d.parameters.length) = some 2 := by decide +kernel
set_option maxHeartbeats 400000 in
set_option maxRecDepth 100000 in
/-- rename -/
theorem c_X4_rename (l : Launch) (D : va_G) (cI : ClassId) (h0 : Nat) (g1 : Nat) (g2 : Nat) (g3 : Nat) (g4 : Nat) (g5 : Nat) (g6 : Nat) (code : Int32) (qq : zQ) (wi : Bool) (mo : Bool) (mv : Int32) (fr : Int32) (sh : Int32) (gr : Int32) (cp : Int32) (ra : Int32) (rl : Int32) (ow : zA) (nx : zA) (ki : zA) (na : zA) (p0 : Int32) (p1 : Int32) (sz : Nat) : Met l yX4_rename wsX4_rename ({ frames := 2, cells := 0, slots := 0, locals := 44 }) (z_Pw D cI [.ref h0, .int p0, .int p1] [(h0, .inr (4, [.int code, .int (zb qq.1), .int qq.2.1, .int qq.2.2.1, .ref g1, .ref g2, .ref g3, .ref g4, .ref g5, .ref g6, .int (zb qq.2.2.2), .int (zb wi), .int (zb mo), .int mv, .int fr, .int sh, .int gr, .int cp, .int ra, .int rl])), (g2, .inl (cI, 48, .inl ow)), (g3, .inl (cI, 48, .inl nx)), (g4, .inl (cI, 17, .inl ki)), (g5, .inl (cI, 17, .inl na))] sz) (z_Wo D (some (.int ((m_rename qq wi ow nx ki na p0 p1).1))) [(h0, .inr (4, [.int ((m_rename qq wi ow nx ki na p0 p1).2.1), .int (zb ((m_rename qq wi ow nx ki na p0 p1).2.2.1).1), .int (((m_rename qq wi ow nx ki na p0 p1).2.2.1).2.1), .int (((m_rename qq wi ow nx ki na p0 p1).2.2.1).2.2.1), .ref g1, .ref g2, .ref g3, .ref g4, .ref g5, .ref g6, .int (zb ((m_rename qq wi ow nx ki na p0 p1).2.2.1).2.2.2), .int (zb wi), .int (zb mo), .int mv, .int fr, .int sh, .int gr, .int cp, .int ra, .int rl])), (g2, .inl (cI, 48, .inl ((m_rename qq wi ow nx ki na p0 p1).2.2.2.1))), (g3, .inl (cI, 48, .inl ((m_rename qq wi ow nx ki na p0 p1).2.2.2.2.1))), (g4, .inl (cI, 17, .inl ki)), (g5, .inl (cI, 17, .inl ((m_rename qq wi ow nx ki na p0 p1).2.2.2.2.2)))] (va_A [(h0, .inr (4, [.int code, .int (zb qq.1), .int qq.2.1, .int qq.2.2.1, .ref g1, .ref g2, .ref g3, .ref g4, .ref g5, .ref g6, .int (zb qq.2.2.2), .int (zb wi), .int (zb mo), .int mv, .int fr, .int sh, .int gr, .int cp, .int ra, .int rl])), (g2, .inl (cI, 48, .inl ow)), (g3, .inl (cI, 48, .inl nx)), (g4, .inl (cI, 17, .inl ki)), (g5, .inl (cI, 17, .inl na))] sz)) 0 0 (va_A [(h0, .inr (4, [.int code, .int (zb qq.1), .int qq.2.1, .int qq.2.2.1, .ref g1, .ref g2, .ref g3, .ref g4, .ref g5, .ref g6, .int (zb qq.2.2.2), .int (zb wi), .int (zb mo), .int mv, .int fr, .int sh, .int gr, .int cp, .int ra, .int rl])), (g2, .inl (cI, 48, .inl ow)), (g3, .inl (cI, 48, .inl nx)), (g4, .inl (cI, 17, .inl ki)), (g5, .inl (cI, 17, .inl na))] sz) := by
  refine Met.ofW (cc := cX4_rename) (maxL := 4) (ret := (some .int)) (by decide) rfl ?_
  intro p e s m args below meth c s₁ B hml hv
  obtain ⟨rfl, hsz, hP, hK, hD0⟩ := hv
  have hx := B.exec
  have hb := B.bytes
  have hr := B.returns
  have hts := atoms_spec (ws := wsX4_rename) B.pre
  have hown : s.vm.findClass RX4 = some m.cls := findClass_of_methodNamed B.named
  have hlocks := B.notSynchronized
  subst hsz
  have hD := hD0.self (sz := s.heap.size)
  generalize hAe : va_A [(h0, .inr (4, [.int code, .int (zb qq.1), .int qq.2.1, .int qq.2.2.1, .ref g1, .ref g2, .ref g3, .ref g4, .ref g5, .ref g6, .int (zb qq.2.2.2), .int (zb wi), .int (zb mo), .int mv, .int fr, .int sh, .int gr, .int cp, .int ra, .int rl])), (g2, .inl (cI, 48, .inl ow)), (g3, .inl (cI, 48, .inl nx)), (g4, .inl (cI, 17, .inl ki)), (g5, .inl (cI, 17, .inl na))] s.heap.size = A at hD ⊢
  have hA : ∀ q : Nat, s.heap.size ≤ q → A q := fun q h => by rw [← hAe]; exact Or.inr h
  have hS : va_S A s.heap s.heap [] := va_S.rf
  have hP : va_P D vwCl [(h0, .inr (4, [.int code, .int (zb qq.1), .int qq.2.1, .int qq.2.2.1, .ref g1, .ref g2, .ref g3, .ref g4, .ref g5, .ref g6, .int (zb qq.2.2.2), .int (zb wi), .int (zb mo), .int mv, .int fr, .int sh, .int gr, .int cp, .int ra, .int rl])), (g2, .inl (cI, 48, .inl ow)), (g3, .inl (cI, 48, .inl nx)), (g4, .inl (cI, 17, .inl ki)), (g5, .inl (cI, 17, .inl na))] s.heap := hP
  have hl := lv_entry ([.ref h0, .int p0, .int p1]) (n := 4) (Nat.le_of_ble_eq_true rfl)
  rw [lg_entry_eq]
  generalize (lg_sl ([.ref h0, .int p0, .int p1]) ++ List.replicate (4 - (lg_sl ([.ref h0, .int p0, .int p1])).length) Slot.unset).toArray = ls at hl ⊢
  have hl : lv_has ls 4 [(0, .ref h0), (1, .int p0), (2, .int p1)] := hl
  refine z_start hP hS (fun H locs hP hS => ?_)
  have hin4 : ∀ w ∈ wsX40, w ∈ wsX4_rename := by decide +kernel
  have hf7 := hts (.fieldLink RX4 7 "SqueezedVolumeModel" "on" "Z") (by decide +kernel)
  have hf36 := hts (.fieldLink RX4 36 "SqueezedVolumeModel" "code" "I") (by decide +kernel)
  have hf30 := hts (.fieldLink RX4 30 "SqueezedVolumeModel" "name" "[I") (by decide +kernel)
  refine lv_aload_n hx hb dX4_rename_0 rfl (lv_at hl 0 rfl) ?_
  refine lv_aload_n hx hb dX4_rename_1 rfl (lv_at hl 0 rfl) ?_
  refine va_get (D := D) (ci := 4) (v := .int (zb qq.1)) (C := RX4) (T := TX4) (N := 20) hx hb hts hin4 hown hK hP 0 rfl rfl 1 (by decide) hf7 (fun _ h9 => h9) rfl dX4_rename_2 ?_
  refine lv_if_ne (tgt := 12) hx hb dX4_rename_5 (by decide) (fun c_1 => ?_) (fun c_1 => ?_)
  · skip
    refine lv_iload_n hx hb dX4_rename_12 rfl (lv_at hl 2 rfl) ?_
    refine z_callRi (va_runS (As := [.int p1]) (rest := [.ref h0]) ⟨hx, hb, hml, hown, hts⟩ (c_X4_isName l D cI p1) (va_cwS 1 hts gX4_rename_X4_isName rfl rfl rfl qd_X4_isName ⟨Nat.le_of_ble_eq_true rfl, Nat.le_of_ble_eq_true rfl⟩) ⟨z_Pr_blind, fun U hU hW => ⟨rfl, by rw [hU]; exact hP.sub (ws' := []) [] rfl, va_K.moved hW.alike hK⟩⟩ rfl rfl hl.1 rfl (lv_room (Nat.le_of_ble_eq_true rfl)) dX4_rename_13 ⟨Nat.le_of_ble_eq_true rfl, Nat.le_of_ble_eq_true rfl⟩) ?_
    refine lv_if_ne (tgt := 23) hx hb dX4_rename_16 (by decide) (fun c_2 => ?_) (fun c_2 => ?_)
    · skip
      refine lv_aload_n hx hb dX4_rename_23 rfl (lv_at hl 0 rfl) ?_
      refine lv_iload_n hx hb dX4_rename_24 rfl (lv_at hl 1 rfl) ?_
      refine z_callRi (va_runV (As := [.int p0]) (rest := [.ref h0]) ⟨hx, hb, hml, hown, hts⟩ (c_X4_permanent l D cI h0 g1 g2 g3 g4 g5 g6 code qq wi mo mv fr sh gr cp ra rl ki na p0) (cwV 1 hts gX4_rename_X4_permanent rfl rfl rfl qd_X4_permanent ⟨Nat.le_of_ble_eq_true rfl, Nat.le_of_ble_eq_true rfl⟩) ⟨z_Pr_blind, va_recv hK hP (ci := 4) (q0 := 0) rfl rfl, fun U hU hW => ⟨rfl, by rw [hU]; exact hP.sub (ws' := [(h0, .inr (4, [.int code, .int (zb qq.1), .int qq.2.1, .int qq.2.2.1, .ref g1, .ref g2, .ref g3, .ref g4, .ref g5, .ref g6, .int (zb qq.2.2.2), .int (zb wi), .int (zb mo), .int mv, .int fr, .int sh, .int gr, .int cp, .int ra, .int rl])), (g4, .inl (cI, 17, .inl ki)), (g5, .inl (cI, 17, .inl na))]) [0, 3, 4] rfl, va_K.moved hW.alike hK⟩⟩ rfl rfl hl.1 rfl (lv_room (Nat.le_of_ble_eq_true rfl)) dX4_rename_25 ⟨Nat.le_of_ble_eq_true rfl, Nat.le_of_ble_eq_true rfl⟩) ?_
      refine lv_if_ne (tgt := 35) hx hb dX4_rename_28 (by decide) (fun c_3 => ?_) (fun c_3 => ?_)
      · skip
        refine lv_aload_n hx hb dX4_rename_35 rfl (lv_at hl 0 rfl) ?_
        refine lv_iload_n hx hb dX4_rename_36 rfl (lv_at hl 2 rfl) ?_
        refine z_callRi (va_runV (As := [.int p1]) (rest := [.ref h0]) ⟨hx, hb, hml, hown, hts⟩ (c_X4_permanent l D cI h0 g1 g2 g3 g4 g5 g6 code qq wi mo mv fr sh gr cp ra rl ki na p1) (cwV 1 hts gX4_rename_X4_permanent rfl rfl rfl qd_X4_permanent ⟨Nat.le_of_ble_eq_true rfl, Nat.le_of_ble_eq_true rfl⟩) ⟨z_Pr_blind, va_recv hK hP (ci := 4) (q0 := 0) rfl rfl, fun U hU hW => ⟨rfl, by rw [hU]; exact hP.sub (ws' := [(h0, .inr (4, [.int code, .int (zb qq.1), .int qq.2.1, .int qq.2.2.1, .ref g1, .ref g2, .ref g3, .ref g4, .ref g5, .ref g6, .int (zb qq.2.2.2), .int (zb wi), .int (zb mo), .int mv, .int fr, .int sh, .int gr, .int cp, .int ra, .int rl])), (g4, .inl (cI, 17, .inl ki)), (g5, .inl (cI, 17, .inl na))]) [0, 3, 4] rfl, va_K.moved hW.alike hK⟩⟩ rfl rfl hl.1 rfl (lv_room (Nat.le_of_ble_eq_true rfl)) dX4_rename_37 ⟨Nat.le_of_ble_eq_true rfl, Nat.le_of_ble_eq_true rfl⟩) ?_
        refine lv_if_le (tgt := 47) hx hb dX4_rename_40 (by decide) (fun c_4 => ?_) (fun c_4 => ?_)
        · skip
          refine lv_iconst (v := 0) hx hb dX4_rename_47 (by decide) ?_
          refine va_put (D := D) (ci := 4) (v := .int 0) (ty := .int) (C := RX4) (T := TX4) (N := 20) hx hb hts hin4 tyX4 tyX4_ok nmX4 hown hK hP hD hS 0 rfl rfl 0 (by decide) hf36 (fun _ h9 => h9) rfl (by decide +kernel) rfl rfl (Nat.le_of_ble_eq_true rfl) dX4_rename_48 (fun H locs hP hD hS => ?_)
          have hP : va_P D vwCl [(h0, .inr (4, [.int 0, .int (zb qq.1), .int qq.2.1, .int qq.2.2.1, .ref g1, .ref g2, .ref g3, .ref g4, .ref g5, .ref g6, .int (zb qq.2.2.2), .int (zb wi), .int (zb mo), .int mv, .int fr, .int sh, .int gr, .int cp, .int ra, .int rl])), (g2, .inl (cI, 48, .inl ow)), (g3, .inl (cI, 48, .inl nx)), (g4, .inl (cI, 17, .inl ki)), (g5, .inl (cI, 17, .inl na))] H := hP
          have hD : va_D A [(h0, .inr (4, [.int 0, .int (zb qq.1), .int qq.2.1, .int qq.2.2.1, .ref g1, .ref g2, .ref g3, .ref g4, .ref g5, .ref g6, .int (zb qq.2.2.2), .int (zb wi), .int (zb mo), .int mv, .int fr, .int sh, .int gr, .int cp, .int ra, .int rl])), (g2, .inl (cI, 48, .inl ow)), (g3, .inl (cI, 48, .inl nx)), (g4, .inl (cI, 17, .inl ki)), (g5, .inl (cI, 17, .inl na))] := hD
          refine lv_aload_n hx hb dX4_rename_51 rfl (lv_at hl 0 rfl) ?_
          refine va_get (D := D) (ci := 4) (v := .int 0) (C := RX4) (T := TX4) (N := 20) hx hb hts hin4 hown hK hP 0 rfl rfl 0 (by decide) hf36 (fun _ h9 => h9) rfl dX4_rename_52 ?_
          refine lv_if_le (tgt := 60) hx hb dX4_rename_55 (by decide) (fun c_5 => ?_) (fun c_5 => ?_)
          · skip
            refine lv_aload_n hx hb dX4_rename_60 rfl (lv_at hl 0 rfl) ?_
            refine lv_iload_n hx hb dX4_rename_61 rfl (lv_at hl 1 rfl) ?_
            refine z_callRi (va_runV (As := [.int p0]) (rest := []) ⟨hx, hb, hml, hown, hts⟩ (c_X4_permanent l D cI h0 g1 g2 g3 g4 g5 g6 0 qq wi mo mv fr sh gr cp ra rl ki na p0) (cwV 1 hts gX4_rename_X4_permanent rfl rfl rfl qd_X4_permanent ⟨Nat.le_of_ble_eq_true rfl, Nat.le_of_ble_eq_true rfl⟩) ⟨z_Pr_blind, va_recv hK hP (ci := 4) (q0 := 0) rfl rfl, fun U hU hW => ⟨rfl, by rw [hU]; exact hP.sub (ws' := [(h0, .inr (4, [.int 0, .int (zb qq.1), .int qq.2.1, .int qq.2.2.1, .ref g1, .ref g2, .ref g3, .ref g4, .ref g5, .ref g6, .int (zb qq.2.2.2), .int (zb wi), .int (zb mo), .int mv, .int fr, .int sh, .int gr, .int cp, .int ra, .int rl])), (g4, .inl (cI, 17, .inl ki)), (g5, .inl (cI, 17, .inl na))]) [0, 3, 4] rfl, va_K.moved hW.alike hK⟩⟩ rfl rfl hl.1 rfl (lv_room (Nat.le_of_ble_eq_true rfl)) dX4_rename_62 ⟨Nat.le_of_ble_eq_true rfl, Nat.le_of_ble_eq_true rfl⟩) ?_
            refine lv_istore_n (lv' := [(3, .int (nI (m_perm ki na p0))), (0, .ref h0), (1, .int p0), (2, .int p1)]) hx hb dX4_rename_65 rfl hl (by decide) rfl (fun ls hl => ?_)
            refine lv_aload_n hx hb dX4_rename_66 rfl (lv_at hl 1 rfl) ?_
            have hPc : va_P D vwCl [(h0, .inr (4, [.int 0, .int (zb qq.1), .int qq.2.1, .int qq.2.2.1, .ref g1, .ref g2, .ref g3, .ref g4, .ref g5, .ref g6, .int (zb qq.2.2.2), .int (zb wi), .int (zb mo), .int mv, .int fr, .int sh, .int gr, .int cp, .int ra, .int rl])), (g2, .inl (cI, 48, .inl ow)), (g3, .inl (cI, 48, .inl nx))] H := hP.sub [0, 1, 2] rfl
            have hDc : va_D A [(h0, .inr (4, [.int 0, .int (zb qq.1), .int qq.2.1, .int qq.2.2.1, .ref g1, .ref g2, .ref g3, .ref g4, .ref g5, .ref g6, .int (zb qq.2.2.2), .int (zb wi), .int (zb mo), .int mv, .int fr, .int sh, .int gr, .int cp, .int ra, .int rl])), (g2, .inl (cI, 48, .inl ow)), (g3, .inl (cI, 48, .inl nx))] := hD.sub [0, 1, 2] (by decide) rfl
            refine z_callWv (ws' := [(h0, .inr (4, [.int 0, .int (zb qq.1), .int qq.2.1, .int qq.2.2.1, .ref g1, .ref g2, .ref g3, .ref g4, .ref g5, .ref g6, .int (zb qq.2.2.2), .int (zb wi), .int (zb mo), .int mv, .int fr, .int sh, .int gr, .int cp, .int ra, .int rl])), (g2, .inl (cI, 48, .inl ow)), (g3, .inl (cI, 48, .inl (m_cp nx ow))), (g4, .inl (cI, 17, .inl ki)), (g5, .inl (cI, 17, .inl na))]) [0, 1, 2] [3, 4] [(g4, .inl (cI, 17, .inl ki)), (g5, .inl (cI, 17, .inl na))] [h0, g2, g3, g4, g5] (va_runV (As := []) (rest := []) ⟨hx, hb, hml, hown, hts⟩ (c_X4_lay l D cI h0 g1 g2 g3 g4 g5 g6 0 qq wi mo mv fr sh gr cp ra rl ow nx H.size) (cwV 0 hts gX4_rename_X4_lay rfl rfl rfl qd_X4_lay ⟨Nat.le_of_ble_eq_true rfl, Nat.le_of_ble_eq_true rfl⟩) ⟨z_Pw_blind, va_recv hK hP (ci := 4) (q0 := 0) rfl rfl, fun U hU hW => ⟨rfl, by rw [hU], by rw [hU]; exact hPc, va_K.moved hW.alike hK, hDc.weaken (fun _ _ _ _ => trivial)⟩⟩ rfl rfl hl.1 rfl (lv_room (Nat.le_of_ble_eq_true rfl)) dX4_rename_67 ⟨Nat.le_of_ble_eq_true rfl, Nat.le_of_ble_eq_true rfl⟩) hP hD hS hA ⟨rfl, rfl, rfl, rfl, rfl, rfl, rfl⟩ (fun H locs hP hD hS => ?_)
            generalize hs_6 : m_cp nx ow = s_6 at hP hD ⊢
            refine lv_aload_n hx hb dX4_rename_70 rfl (lv_at hl 1 rfl) ?_
            have hPc : va_P D vwCl [(h0, .inr (4, [.int 0, .int (zb qq.1), .int qq.2.1, .int qq.2.2.1, .ref g1, .ref g2, .ref g3, .ref g4, .ref g5, .ref g6, .int (zb qq.2.2.2), .int (zb wi), .int (zb mo), .int mv, .int fr, .int sh, .int gr, .int cp, .int ra, .int rl])), (g2, .inl (cI, 48, .inl ow)), (g3, .inl (cI, 48, .inl s_6))] H := hP.sub [0, 1, 2] rfl
            have hDc : va_D A [(h0, .inr (4, [.int 0, .int (zb qq.1), .int qq.2.1, .int qq.2.2.1, .ref g1, .ref g2, .ref g3, .ref g4, .ref g5, .ref g6, .int (zb qq.2.2.2), .int (zb wi), .int (zb mo), .int mv, .int fr, .int sh, .int gr, .int cp, .int ra, .int rl])), (g2, .inl (cI, 48, .inl ow)), (g3, .inl (cI, 48, .inl s_6))] := hD.sub [0, 1, 2] (by decide) rfl
            refine z_callWi (ws' := [(h0, .inr (4, [.int 0, .int (zb ((m_change qq wi ow s_6).2.1).1), .int (((m_change qq wi ow s_6).2.1).2.1), .int (((m_change qq wi ow s_6).2.1).2.2.1), .ref g1, .ref g2, .ref g3, .ref g4, .ref g5, .ref g6, .int (zb ((m_change qq wi ow s_6).2.1).2.2.2), .int (zb wi), .int (zb mo), .int mv, .int fr, .int sh, .int gr, .int cp, .int ra, .int rl])), (g2, .inl (cI, 48, .inl ((m_change qq wi ow s_6).2.2))), (g3, .inl (cI, 48, .inl s_6)), (g4, .inl (cI, 17, .inl ki)), (g5, .inl (cI, 17, .inl na))]) [0, 1, 2] [3, 4] [(g4, .inl (cI, 17, .inl ki)), (g5, .inl (cI, 17, .inl na))] [h0, g2, g3, g4, g5] (va_runV (As := []) (rest := []) ⟨hx, hb, hml, hown, hts⟩ (c_X4_change l D cI h0 g1 g2 g3 g4 g5 g6 0 qq wi mo mv fr sh gr cp ra rl ow s_6 H.size) (cwV 0 hts gX4_rename_X4_change rfl rfl rfl qd_X4_change ⟨Nat.le_of_ble_eq_true rfl, Nat.le_of_ble_eq_true rfl⟩) ⟨z_Pw_blind, va_recv hK hP (ci := 4) (q0 := 0) rfl rfl, fun U hU hW => ⟨rfl, by rw [hU], by rw [hU]; exact hPc, va_K.moved hW.alike hK, hDc.weaken (fun _ _ _ _ => trivial)⟩⟩ rfl rfl hl.1 rfl (lv_room (Nat.le_of_ble_eq_true rfl)) dX4_rename_71 ⟨Nat.le_of_ble_eq_true rfl, Nat.le_of_ble_eq_true rfl⟩) hP hD hS hA ⟨rfl, rfl, rfl, rfl, rfl, rfl, rfl⟩ (fun H locs hP hD hS => ?_)
            generalize hs_7 : m_change qq wi ow s_6 = s_7 at hP hD ⊢
            refine lv_if_ne (tgt := 79) hx hb dX4_rename_74 (by decide) (fun c_8 => ?_) (fun c_8 => ?_)
            · skip
              refine lv_aload_n hx hb dX4_rename_79 rfl (lv_at hl 1 rfl) ?_
              refine va_get (D := D) (ci := 4) (v := .ref g5) (C := RX4) (T := TX4) (N := 20) hx hb hts hin4 hown hK hP 0 rfl rfl 8 (by decide) hf30 (fun _ h9 => h9) rfl dX4_rename_80 ?_
              refine lv_iload_n hx hb dX4_rename_83 rfl (lv_at hl 0 rfl) ?_
              refine lv_iload_n hx hb dX4_rename_84 rfl (lv_at hl 3 rfl) ?_
              refine va_iast hx hb hK hP hD hS 4 0 rfl rfl (z_ix rfl (m_perm_17 _ _ _) (by decide)) dX4_rename_85 (fun H locs hP hD hS => ?_)
              rw [z_ic rfl (m_perm_17 _ _ _) (by decide)] at hP hD
              have hP : va_P D vwCl [(h0, .inr (4, [.int 0, .int (zb (s_7.2.1).1), .int ((s_7.2.1).2.1), .int ((s_7.2.1).2.2.1), .ref g1, .ref g2, .ref g3, .ref g4, .ref g5, .ref g6, .int (zb (s_7.2.1).2.2.2), .int (zb wi), .int (zb mo), .int mv, .int fr, .int sh, .int gr, .int cp, .int ra, .int rl])), (g2, .inl (cI, 48, .inl s_7.2.2)), (g3, .inl (cI, 48, .inl s_6)), (g4, .inl (cI, 17, .inl ki)), (g5, .inl (cI, 17, .inl (upd na (m_perm ki na p0) p1)))] H := hP
              have hD : va_D A [(h0, .inr (4, [.int 0, .int (zb (s_7.2.1).1), .int ((s_7.2.1).2.1), .int ((s_7.2.1).2.2.1), .ref g1, .ref g2, .ref g3, .ref g4, .ref g5, .ref g6, .int (zb (s_7.2.1).2.2.2), .int (zb wi), .int (zb mo), .int mv, .int fr, .int sh, .int gr, .int cp, .int ra, .int rl])), (g2, .inl (cI, 48, .inl s_7.2.2)), (g3, .inl (cI, 48, .inl s_6)), (g4, .inl (cI, 17, .inl ki)), (g5, .inl (cI, 17, .inl (upd na (m_perm ki na p0) p1)))] := hD
              refine lv_iconst (v := 0) hx hb dX4_rename_86 (by decide) ?_
              have hE : m_rename qq wi ow nx ki na p0 p1 = (0, 0, s_7.2.1, s_7.2.2, s_6, upd na (m_perm ki na p0) p1) := by subst hs_7 hs_6; simp only [m_rename, if_neg (z_b1f c_1), if_neg (z_b1f c_2), if_neg c_3, if_pos c_4, if_neg (z_b1f c_8)] <;> rfl
              have hPz : va_P D vwCl [(h0, .inr (4, [.int ((m_rename qq wi ow nx ki na p0 p1).2.1), .int (zb ((m_rename qq wi ow nx ki na p0 p1).2.2.1).1), .int (((m_rename qq wi ow nx ki na p0 p1).2.2.1).2.1), .int (((m_rename qq wi ow nx ki na p0 p1).2.2.1).2.2.1), .ref g1, .ref g2, .ref g3, .ref g4, .ref g5, .ref g6, .int (zb ((m_rename qq wi ow nx ki na p0 p1).2.2.1).2.2.2), .int (zb wi), .int (zb mo), .int mv, .int fr, .int sh, .int gr, .int cp, .int ra, .int rl])), (g2, .inl (cI, 48, .inl ((m_rename qq wi ow nx ki na p0 p1).2.2.2.1))), (g3, .inl (cI, 48, .inl ((m_rename qq wi ow nx ki na p0 p1).2.2.2.2.1))), (g4, .inl (cI, 17, .inl ki)), (g5, .inl (cI, 17, .inl ((m_rename qq wi ow nx ki na p0 p1).2.2.2.2.2)))] H := by rw [hE]; exact hP
              have hRr : 0 = (m_rename qq wi ow nx ki na p0 p1).1 := by first | (rw [hE]; done) | (rw [hE]; rfl)
              exact W.iret (v := 0) hx hb hr (fun t ht hW => ⟨⟨z_ret hRr, by rw [ht]; exact hPz⟩, hS.F ht⟩) hS.2.2 dX4_rename_87
            · skip
              refine lv_iconst (v := -1) hx hb dX4_rename_77 (by decide) ?_
              have hE : m_rename qq wi ow nx ki na p0 p1 = (-1, 0, s_7.2.1, s_7.2.2, s_6, na) := by subst hs_7 hs_6; simp only [m_rename, if_neg (z_b1f c_1), if_neg (z_b1f c_2), if_neg c_3, if_pos c_4, if_pos (z_b0 c_8)] <;> rfl
              have hPz : va_P D vwCl [(h0, .inr (4, [.int ((m_rename qq wi ow nx ki na p0 p1).2.1), .int (zb ((m_rename qq wi ow nx ki na p0 p1).2.2.1).1), .int (((m_rename qq wi ow nx ki na p0 p1).2.2.1).2.1), .int (((m_rename qq wi ow nx ki na p0 p1).2.2.1).2.2.1), .ref g1, .ref g2, .ref g3, .ref g4, .ref g5, .ref g6, .int (zb ((m_rename qq wi ow nx ki na p0 p1).2.2.1).2.2.2), .int (zb wi), .int (zb mo), .int mv, .int fr, .int sh, .int gr, .int cp, .int ra, .int rl])), (g2, .inl (cI, 48, .inl ((m_rename qq wi ow nx ki na p0 p1).2.2.2.1))), (g3, .inl (cI, 48, .inl ((m_rename qq wi ow nx ki na p0 p1).2.2.2.2.1))), (g4, .inl (cI, 17, .inl ki)), (g5, .inl (cI, 17, .inl ((m_rename qq wi ow nx ki na p0 p1).2.2.2.2.2)))] H := by rw [hE]; exact hP
              have hRr : -1 = (m_rename qq wi ow nx ki na p0 p1).1 := by first | (rw [hE]; done) | (rw [hE]; rfl)
              exact W.iret (v := -1) hx hb hr (fun t ht hW => ⟨⟨z_ret hRr, by rw [ht]; exact hPz⟩, hS.F ht⟩) hS.2.2 dX4_rename_78
          · skip
            exact absurd (by decide) c_5
        · skip
          refine lv_iconst (v := 4) hx hb dX4_rename_43 (by decide) ?_
          refine lv_goto (tgt := 48) hx hb dX4_rename_44 (by decide) ?_
          refine va_put (D := D) (ci := 4) (v := .int 4) (ty := .int) (C := RX4) (T := TX4) (N := 20) hx hb hts hin4 tyX4 tyX4_ok nmX4 hown hK hP hD hS 0 rfl rfl 0 (by decide) hf36 (fun _ h9 => h9) rfl (by decide +kernel) rfl rfl (Nat.le_of_ble_eq_true rfl) dX4_rename_48 (fun H locs hP hD hS => ?_)
          have hP : va_P D vwCl [(h0, .inr (4, [.int 4, .int (zb qq.1), .int qq.2.1, .int qq.2.2.1, .ref g1, .ref g2, .ref g3, .ref g4, .ref g5, .ref g6, .int (zb qq.2.2.2), .int (zb wi), .int (zb mo), .int mv, .int fr, .int sh, .int gr, .int cp, .int ra, .int rl])), (g2, .inl (cI, 48, .inl ow)), (g3, .inl (cI, 48, .inl nx)), (g4, .inl (cI, 17, .inl ki)), (g5, .inl (cI, 17, .inl na))] H := hP
          have hD : va_D A [(h0, .inr (4, [.int 4, .int (zb qq.1), .int qq.2.1, .int qq.2.2.1, .ref g1, .ref g2, .ref g3, .ref g4, .ref g5, .ref g6, .int (zb qq.2.2.2), .int (zb wi), .int (zb mo), .int mv, .int fr, .int sh, .int gr, .int cp, .int ra, .int rl])), (g2, .inl (cI, 48, .inl ow)), (g3, .inl (cI, 48, .inl nx)), (g4, .inl (cI, 17, .inl ki)), (g5, .inl (cI, 17, .inl na))] := hD
          refine lv_aload_n hx hb dX4_rename_51 rfl (lv_at hl 0 rfl) ?_
          refine va_get (D := D) (ci := 4) (v := .int 4) (C := RX4) (T := TX4) (N := 20) hx hb hts hin4 hown hK hP 0 rfl rfl 0 (by decide) hf36 (fun _ h9 => h9) rfl dX4_rename_52 ?_
          refine lv_if_le (tgt := 60) hx hb dX4_rename_55 (by decide) (fun c_9 => ?_) (fun c_9 => ?_)
          · skip
            exact absurd c_9 (by decide)
          · skip
            refine lv_iconst (v := 0) hx hb dX4_rename_58 (by decide) ?_
            have hE : m_rename qq wi ow nx ki na p0 p1 = (0, 4, qq, ow, nx, na) := by simp only [m_rename, if_neg (z_b1f c_1), if_neg (z_b1f c_2), if_neg c_3, if_neg c_4] <;> rfl
            have hPz : va_P D vwCl [(h0, .inr (4, [.int ((m_rename qq wi ow nx ki na p0 p1).2.1), .int (zb ((m_rename qq wi ow nx ki na p0 p1).2.2.1).1), .int (((m_rename qq wi ow nx ki na p0 p1).2.2.1).2.1), .int (((m_rename qq wi ow nx ki na p0 p1).2.2.1).2.2.1), .ref g1, .ref g2, .ref g3, .ref g4, .ref g5, .ref g6, .int (zb ((m_rename qq wi ow nx ki na p0 p1).2.2.1).2.2.2), .int (zb wi), .int (zb mo), .int mv, .int fr, .int sh, .int gr, .int cp, .int ra, .int rl])), (g2, .inl (cI, 48, .inl ((m_rename qq wi ow nx ki na p0 p1).2.2.2.1))), (g3, .inl (cI, 48, .inl ((m_rename qq wi ow nx ki na p0 p1).2.2.2.2.1))), (g4, .inl (cI, 17, .inl ki)), (g5, .inl (cI, 17, .inl ((m_rename qq wi ow nx ki na p0 p1).2.2.2.2.2)))] H := by rw [hE]; exact hP
            have hRr : 0 = (m_rename qq wi ow nx ki na p0 p1).1 := by first | (rw [hE]; done) | (rw [hE]; rfl)
            exact W.iret (v := 0) hx hb hr (fun t ht hW => ⟨⟨z_ret hRr, by rw [ht]; exact hPz⟩, hS.F ht⟩) hS.2.2 dX4_rename_59
      · skip
        refine lv_iconst (v := 3) hx hb dX4_rename_31 (by decide) ?_
        refine lv_goto (tgt := 48) hx hb dX4_rename_32 (by decide) ?_
        refine va_put (D := D) (ci := 4) (v := .int 3) (ty := .int) (C := RX4) (T := TX4) (N := 20) hx hb hts hin4 tyX4 tyX4_ok nmX4 hown hK hP hD hS 0 rfl rfl 0 (by decide) hf36 (fun _ h9 => h9) rfl (by decide +kernel) rfl rfl (Nat.le_of_ble_eq_true rfl) dX4_rename_48 (fun H locs hP hD hS => ?_)
        have hP : va_P D vwCl [(h0, .inr (4, [.int 3, .int (zb qq.1), .int qq.2.1, .int qq.2.2.1, .ref g1, .ref g2, .ref g3, .ref g4, .ref g5, .ref g6, .int (zb qq.2.2.2), .int (zb wi), .int (zb mo), .int mv, .int fr, .int sh, .int gr, .int cp, .int ra, .int rl])), (g2, .inl (cI, 48, .inl ow)), (g3, .inl (cI, 48, .inl nx)), (g4, .inl (cI, 17, .inl ki)), (g5, .inl (cI, 17, .inl na))] H := hP
        have hD : va_D A [(h0, .inr (4, [.int 3, .int (zb qq.1), .int qq.2.1, .int qq.2.2.1, .ref g1, .ref g2, .ref g3, .ref g4, .ref g5, .ref g6, .int (zb qq.2.2.2), .int (zb wi), .int (zb mo), .int mv, .int fr, .int sh, .int gr, .int cp, .int ra, .int rl])), (g2, .inl (cI, 48, .inl ow)), (g3, .inl (cI, 48, .inl nx)), (g4, .inl (cI, 17, .inl ki)), (g5, .inl (cI, 17, .inl na))] := hD
        refine lv_aload_n hx hb dX4_rename_51 rfl (lv_at hl 0 rfl) ?_
        refine va_get (D := D) (ci := 4) (v := .int 3) (C := RX4) (T := TX4) (N := 20) hx hb hts hin4 hown hK hP 0 rfl rfl 0 (by decide) hf36 (fun _ h9 => h9) rfl dX4_rename_52 ?_
        refine lv_if_le (tgt := 60) hx hb dX4_rename_55 (by decide) (fun c_10 => ?_) (fun c_10 => ?_)
        · skip
          exact absurd c_10 (by decide)
        · skip
          refine lv_iconst (v := 0) hx hb dX4_rename_58 (by decide) ?_
          have hE : m_rename qq wi ow nx ki na p0 p1 = (0, 3, qq, ow, nx, na) := by simp only [m_rename, if_neg (z_b1f c_1), if_neg (z_b1f c_2), if_pos c_3] <;> rfl
          have hPz : va_P D vwCl [(h0, .inr (4, [.int ((m_rename qq wi ow nx ki na p0 p1).2.1), .int (zb ((m_rename qq wi ow nx ki na p0 p1).2.2.1).1), .int (((m_rename qq wi ow nx ki na p0 p1).2.2.1).2.1), .int (((m_rename qq wi ow nx ki na p0 p1).2.2.1).2.2.1), .ref g1, .ref g2, .ref g3, .ref g4, .ref g5, .ref g6, .int (zb ((m_rename qq wi ow nx ki na p0 p1).2.2.1).2.2.2), .int (zb wi), .int (zb mo), .int mv, .int fr, .int sh, .int gr, .int cp, .int ra, .int rl])), (g2, .inl (cI, 48, .inl ((m_rename qq wi ow nx ki na p0 p1).2.2.2.1))), (g3, .inl (cI, 48, .inl ((m_rename qq wi ow nx ki na p0 p1).2.2.2.2.1))), (g4, .inl (cI, 17, .inl ki)), (g5, .inl (cI, 17, .inl ((m_rename qq wi ow nx ki na p0 p1).2.2.2.2.2)))] H := by rw [hE]; exact hP
          have hRr : 0 = (m_rename qq wi ow nx ki na p0 p1).1 := by first | (rw [hE]; done) | (rw [hE]; rfl)
          exact W.iret (v := 0) hx hb hr (fun t ht hW => ⟨⟨z_ret hRr, by rw [ht]; exact hPz⟩, hS.F ht⟩) hS.2.2 dX4_rename_59
    · skip
      refine lv_iconst (v := 2) hx hb dX4_rename_19 (by decide) ?_
      refine lv_goto (tgt := 48) hx hb dX4_rename_20 (by decide) ?_
      refine va_put (D := D) (ci := 4) (v := .int 2) (ty := .int) (C := RX4) (T := TX4) (N := 20) hx hb hts hin4 tyX4 tyX4_ok nmX4 hown hK hP hD hS 0 rfl rfl 0 (by decide) hf36 (fun _ h9 => h9) rfl (by decide +kernel) rfl rfl (Nat.le_of_ble_eq_true rfl) dX4_rename_48 (fun H locs hP hD hS => ?_)
      have hP : va_P D vwCl [(h0, .inr (4, [.int 2, .int (zb qq.1), .int qq.2.1, .int qq.2.2.1, .ref g1, .ref g2, .ref g3, .ref g4, .ref g5, .ref g6, .int (zb qq.2.2.2), .int (zb wi), .int (zb mo), .int mv, .int fr, .int sh, .int gr, .int cp, .int ra, .int rl])), (g2, .inl (cI, 48, .inl ow)), (g3, .inl (cI, 48, .inl nx)), (g4, .inl (cI, 17, .inl ki)), (g5, .inl (cI, 17, .inl na))] H := hP
      have hD : va_D A [(h0, .inr (4, [.int 2, .int (zb qq.1), .int qq.2.1, .int qq.2.2.1, .ref g1, .ref g2, .ref g3, .ref g4, .ref g5, .ref g6, .int (zb qq.2.2.2), .int (zb wi), .int (zb mo), .int mv, .int fr, .int sh, .int gr, .int cp, .int ra, .int rl])), (g2, .inl (cI, 48, .inl ow)), (g3, .inl (cI, 48, .inl nx)), (g4, .inl (cI, 17, .inl ki)), (g5, .inl (cI, 17, .inl na))] := hD
      refine lv_aload_n hx hb dX4_rename_51 rfl (lv_at hl 0 rfl) ?_
      refine va_get (D := D) (ci := 4) (v := .int 2) (C := RX4) (T := TX4) (N := 20) hx hb hts hin4 hown hK hP 0 rfl rfl 0 (by decide) hf36 (fun _ h9 => h9) rfl dX4_rename_52 ?_
      refine lv_if_le (tgt := 60) hx hb dX4_rename_55 (by decide) (fun c_11 => ?_) (fun c_11 => ?_)
      · skip
        exact absurd c_11 (by decide)
      · skip
        refine lv_iconst (v := 0) hx hb dX4_rename_58 (by decide) ?_
        have hE : m_rename qq wi ow nx ki na p0 p1 = (0, 2, qq, ow, nx, na) := by simp only [m_rename, if_neg (z_b1f c_1), if_pos (z_b0 c_2)] <;> rfl
        have hPz : va_P D vwCl [(h0, .inr (4, [.int ((m_rename qq wi ow nx ki na p0 p1).2.1), .int (zb ((m_rename qq wi ow nx ki na p0 p1).2.2.1).1), .int (((m_rename qq wi ow nx ki na p0 p1).2.2.1).2.1), .int (((m_rename qq wi ow nx ki na p0 p1).2.2.1).2.2.1), .ref g1, .ref g2, .ref g3, .ref g4, .ref g5, .ref g6, .int (zb ((m_rename qq wi ow nx ki na p0 p1).2.2.1).2.2.2), .int (zb wi), .int (zb mo), .int mv, .int fr, .int sh, .int gr, .int cp, .int ra, .int rl])), (g2, .inl (cI, 48, .inl ((m_rename qq wi ow nx ki na p0 p1).2.2.2.1))), (g3, .inl (cI, 48, .inl ((m_rename qq wi ow nx ki na p0 p1).2.2.2.2.1))), (g4, .inl (cI, 17, .inl ki)), (g5, .inl (cI, 17, .inl ((m_rename qq wi ow nx ki na p0 p1).2.2.2.2.2)))] H := by rw [hE]; exact hP
        have hRr : 0 = (m_rename qq wi ow nx ki na p0 p1).1 := by first | (rw [hE]; done) | (rw [hE]; rfl)
        exact W.iret (v := 0) hx hb hr (fun t ht hW => ⟨⟨z_ret hRr, by rw [ht]; exact hPz⟩, hS.F ht⟩) hS.2.2 dX4_rename_59
  · skip
    refine lv_iconst (v := 1) hx hb dX4_rename_8 (by decide) ?_
    refine lv_goto (tgt := 48) hx hb dX4_rename_9 (by decide) ?_
    refine va_put (D := D) (ci := 4) (v := .int 1) (ty := .int) (C := RX4) (T := TX4) (N := 20) hx hb hts hin4 tyX4 tyX4_ok nmX4 hown hK hP hD hS 0 rfl rfl 0 (by decide) hf36 (fun _ h9 => h9) rfl (by decide +kernel) rfl rfl (Nat.le_of_ble_eq_true rfl) dX4_rename_48 (fun H locs hP hD hS => ?_)
    have hP : va_P D vwCl [(h0, .inr (4, [.int 1, .int (zb qq.1), .int qq.2.1, .int qq.2.2.1, .ref g1, .ref g2, .ref g3, .ref g4, .ref g5, .ref g6, .int (zb qq.2.2.2), .int (zb wi), .int (zb mo), .int mv, .int fr, .int sh, .int gr, .int cp, .int ra, .int rl])), (g2, .inl (cI, 48, .inl ow)), (g3, .inl (cI, 48, .inl nx)), (g4, .inl (cI, 17, .inl ki)), (g5, .inl (cI, 17, .inl na))] H := hP
    have hD : va_D A [(h0, .inr (4, [.int 1, .int (zb qq.1), .int qq.2.1, .int qq.2.2.1, .ref g1, .ref g2, .ref g3, .ref g4, .ref g5, .ref g6, .int (zb qq.2.2.2), .int (zb wi), .int (zb mo), .int mv, .int fr, .int sh, .int gr, .int cp, .int ra, .int rl])), (g2, .inl (cI, 48, .inl ow)), (g3, .inl (cI, 48, .inl nx)), (g4, .inl (cI, 17, .inl ki)), (g5, .inl (cI, 17, .inl na))] := hD
    refine lv_aload_n hx hb dX4_rename_51 rfl (lv_at hl 0 rfl) ?_
    refine va_get (D := D) (ci := 4) (v := .int 1) (C := RX4) (T := TX4) (N := 20) hx hb hts hin4 hown hK hP 0 rfl rfl 0 (by decide) hf36 (fun _ h9 => h9) rfl dX4_rename_52 ?_
    refine lv_if_le (tgt := 60) hx hb dX4_rename_55 (by decide) (fun c_12 => ?_) (fun c_12 => ?_)
    · skip
      exact absurd c_12 (by decide)
    · skip
      refine lv_iconst (v := 0) hx hb dX4_rename_58 (by decide) ?_
      have hE : m_rename qq wi ow nx ki na p0 p1 = (0, 1, qq, ow, nx, na) := by simp only [m_rename, if_pos (z_b0 c_1)] <;> rfl
      have hPz : va_P D vwCl [(h0, .inr (4, [.int ((m_rename qq wi ow nx ki na p0 p1).2.1), .int (zb ((m_rename qq wi ow nx ki na p0 p1).2.2.1).1), .int (((m_rename qq wi ow nx ki na p0 p1).2.2.1).2.1), .int (((m_rename qq wi ow nx ki na p0 p1).2.2.1).2.2.1), .ref g1, .ref g2, .ref g3, .ref g4, .ref g5, .ref g6, .int (zb ((m_rename qq wi ow nx ki na p0 p1).2.2.1).2.2.2), .int (zb wi), .int (zb mo), .int mv, .int fr, .int sh, .int gr, .int cp, .int ra, .int rl])), (g2, .inl (cI, 48, .inl ((m_rename qq wi ow nx ki na p0 p1).2.2.2.1))), (g3, .inl (cI, 48, .inl ((m_rename qq wi ow nx ki na p0 p1).2.2.2.2.1))), (g4, .inl (cI, 17, .inl ki)), (g5, .inl (cI, 17, .inl ((m_rename qq wi ow nx ki na p0 p1).2.2.2.2.2)))] H := by rw [hE]; exact hP
      have hRr : 0 = (m_rename qq wi ow nx ki na p0 p1).1 := by first | (rw [hE]; done) | (rw [hE]; rfl)
      exact W.iret (v := 0) hx hb hr (fun t ht hW => ⟨⟨z_ret hRr, by rw [ht]; exact hPz⟩, hS.F ht⟩) hS.2.2 dX4_rename_59
theorem qd_X4_close : yX4_close.cls = RX4 ∧ yX4_close.cls ≠ "java/lang/invoke/MethodHandle" ∧ yX4_close.cls ≠ "java/lang/invoke/VarHandle" ∧ (parseMethodDescriptor yX4_close.desc).map (fun d => d.parameters.length) = some 2 := by decide +kernel
set_option maxHeartbeats 400000 in
set_option maxRecDepth 100000 in
/-- close -/
theorem c_X4_close (l : Launch) (D : va_G) (cI : ClassId) (h0 : Nat) (g1 : Nat) (g2 : Nat) (g3 : Nat) (g4 : Nat) (g5 : Nat) (g6 : Nat) (code : Int32) (qq : zQ) (wi : Bool) (mo : Bool) (mv : Int32) (fr : Int32) (sh : Int32) (gr : Int32) (cp : Int32) (ra : Int32) (rl : Int32) (ow : zA) (nx : zA) (ki : zA) (na : zA) (ha : zA) (p0 : Int32) (p1 : Int32) (sz : Nat) : Met l yX4_close wsX4_close ({ frames := 2, cells := 0, slots := 0, locals := 44 }) (z_Pw D cI [.ref h0, .int p0, .int p1] [(h0, .inr (4, [.int code, .int (zb qq.1), .int qq.2.1, .int qq.2.2.1, .ref g1, .ref g2, .ref g3, .ref g4, .ref g5, .ref g6, .int (zb qq.2.2.2), .int (zb wi), .int (zb mo), .int mv, .int fr, .int sh, .int gr, .int cp, .int ra, .int rl])), (g2, .inl (cI, 48, .inl ow)), (g3, .inl (cI, 48, .inl nx)), (g4, .inl (cI, 17, .inl ki)), (g5, .inl (cI, 17, .inl na)), (g6, .inl (cI, 17, .inl ha))] sz) (z_Wo D (some (.int ((m_close qq wi ow nx ki na ha p0 p1).1))) [(h0, .inr (4, [.int ((m_close qq wi ow nx ki na ha p0 p1).2.1), .int (zb ((m_close qq wi ow nx ki na ha p0 p1).2.2.1).1), .int (((m_close qq wi ow nx ki na ha p0 p1).2.2.1).2.1), .int (((m_close qq wi ow nx ki na ha p0 p1).2.2.1).2.2.1), .ref g1, .ref g2, .ref g3, .ref g4, .ref g5, .ref g6, .int (zb ((m_close qq wi ow nx ki na ha p0 p1).2.2.1).2.2.2), .int (zb wi), .int (zb mo), .int mv, .int fr, .int sh, .int gr, .int cp, .int ra, .int rl])), (g2, .inl (cI, 48, .inl ((m_close qq wi ow nx ki na ha p0 p1).2.2.2.1))), (g3, .inl (cI, 48, .inl ((m_close qq wi ow nx ki na ha p0 p1).2.2.2.2.1))), (g4, .inl (cI, 17, .inl ((m_close qq wi ow nx ki na ha p0 p1).2.2.2.2.2))), (g5, .inl (cI, 17, .inl na)), (g6, .inl (cI, 17, .inl ha))] (va_A [(h0, .inr (4, [.int code, .int (zb qq.1), .int qq.2.1, .int qq.2.2.1, .ref g1, .ref g2, .ref g3, .ref g4, .ref g5, .ref g6, .int (zb qq.2.2.2), .int (zb wi), .int (zb mo), .int mv, .int fr, .int sh, .int gr, .int cp, .int ra, .int rl])), (g2, .inl (cI, 48, .inl ow)), (g3, .inl (cI, 48, .inl nx)), (g4, .inl (cI, 17, .inl ki)), (g5, .inl (cI, 17, .inl na)), (g6, .inl (cI, 17, .inl ha))] sz)) 0 0 (va_A [(h0, .inr (4, [.int code, .int (zb qq.1), .int qq.2.1, .int qq.2.2.1, .ref g1, .ref g2, .ref g3, .ref g4, .ref g5, .ref g6, .int (zb qq.2.2.2), .int (zb wi), .int (zb mo), .int mv, .int fr, .int sh, .int gr, .int cp, .int ra, .int rl])), (g2, .inl (cI, 48, .inl ow)), (g3, .inl (cI, 48, .inl nx)), (g4, .inl (cI, 17, .inl ki)), (g5, .inl (cI, 17, .inl na)), (g6, .inl (cI, 17, .inl ha))] sz) := by
  refine Met.ofW (cc := cX4_close) (maxL := 6) (ret := (some .int)) (by decide) rfl ?_
  intro p e s m args below meth c s₁ B hml hv
  obtain ⟨rfl, hsz, hP, hK, hD0⟩ := hv
  have hx := B.exec
  have hb := B.bytes
  have hr := B.returns
  have hts := atoms_spec (ws := wsX4_close) B.pre
  have hown : s.vm.findClass RX4 = some m.cls := findClass_of_methodNamed B.named
  have hlocks := B.notSynchronized
  subst hsz
  have hD := hD0.self (sz := s.heap.size)
  generalize hAe : va_A [(h0, .inr (4, [.int code, .int (zb qq.1), .int qq.2.1, .int qq.2.2.1, .ref g1, .ref g2, .ref g3, .ref g4, .ref g5, .ref g6, .int (zb qq.2.2.2), .int (zb wi), .int (zb mo), .int mv, .int fr, .int sh, .int gr, .int cp, .int ra, .int rl])), (g2, .inl (cI, 48, .inl ow)), (g3, .inl (cI, 48, .inl nx)), (g4, .inl (cI, 17, .inl ki)), (g5, .inl (cI, 17, .inl na)), (g6, .inl (cI, 17, .inl ha))] s.heap.size = A at hD ⊢
  have hA : ∀ q : Nat, s.heap.size ≤ q → A q := fun q h => by rw [← hAe]; exact Or.inr h
  have hS : va_S A s.heap s.heap [] := va_S.rf
  have hP : va_P D vwCl [(h0, .inr (4, [.int code, .int (zb qq.1), .int qq.2.1, .int qq.2.2.1, .ref g1, .ref g2, .ref g3, .ref g4, .ref g5, .ref g6, .int (zb qq.2.2.2), .int (zb wi), .int (zb mo), .int mv, .int fr, .int sh, .int gr, .int cp, .int ra, .int rl])), (g2, .inl (cI, 48, .inl ow)), (g3, .inl (cI, 48, .inl nx)), (g4, .inl (cI, 17, .inl ki)), (g5, .inl (cI, 17, .inl na)), (g6, .inl (cI, 17, .inl ha))] s.heap := hP
  have hl := lv_entry ([.ref h0, .int p0, .int p1]) (n := 6) (Nat.le_of_ble_eq_true rfl)
  rw [lg_entry_eq]
  generalize (lg_sl ([.ref h0, .int p0, .int p1]) ++ List.replicate (6 - (lg_sl ([.ref h0, .int p0, .int p1])).length) Slot.unset).toArray = ls at hl ⊢
  have hl : lv_has ls 6 [(0, .ref h0), (1, .int p0), (2, .int p1)] := hl
  refine z_start hP hS (fun H locs hP hS => ?_)
  have hin4 : ∀ w ∈ wsX40, w ∈ wsX4_close := by decide +kernel
  have hf7 := hts (.fieldLink RX4 7 "SqueezedVolumeModel" "on" "Z") (by decide +kernel)
  have hf36 := hts (.fieldLink RX4 36 "SqueezedVolumeModel" "code" "I") (by decide +kernel)
  have hf30 := hts (.fieldLink RX4 30 "SqueezedVolumeModel" "name" "[I") (by decide +kernel)
  have hf27 := hts (.fieldLink RX4 27 "SqueezedVolumeModel" "kind" "[I") (by decide +kernel)
  refine lv_aload_n hx hb dX4_close_0 rfl (lv_at hl 0 rfl) ?_
  refine va_get (D := D) (ci := 4) (v := .int (zb qq.1)) (C := RX4) (T := TX4) (N := 20) hx hb hts hin4 hown hK hP 0 rfl rfl 1 (by decide) hf7 (fun _ h9 => h9) rfl dX4_close_1 ?_
  refine lv_if_eq (tgt := 15) hx hb dX4_close_4 (by decide) (fun c_1 => ?_) (fun c_1 => ?_)
  · skip
    refine lv_iconst (v := 0) hx hb dX4_close_15 (by decide) ?_
    refine lv_istore_n (lv' := [(3, .int 0), (0, .ref h0), (1, .int p0), (2, .int p1)]) hx hb dX4_close_16 rfl hl (by decide) rfl (fun ls hl => ?_)
    refine lv_aload_n hx hb dX4_close_17 rfl (lv_at hl 1 rfl) ?_
    refine lv_aload_n hx hb dX4_close_18 rfl (lv_at hl 1 rfl) ?_
    refine va_get (D := D) (ci := 4) (v := .int (zb qq.1)) (C := RX4) (T := TX4) (N := 20) hx hb hts hin4 hown hK hP 0 rfl rfl 1 (by decide) hf7 (fun _ h9 => h9) rfl dX4_close_19 ?_
    refine lv_if_ne (tgt := 29) hx hb dX4_close_22 (by decide) (fun c_2 => ?_) (fun c_2 => ?_)
    · skip
      exact absurd c_1 c_2
    · skip
      refine lv_iconst (v := 1) hx hb dX4_close_25 (by decide) ?_
      refine lv_goto (tgt := 56) hx hb dX4_close_26 (by decide) ?_
      refine va_put (D := D) (ci := 4) (v := .int 1) (ty := .int) (C := RX4) (T := TX4) (N := 20) hx hb hts hin4 tyX4 tyX4_ok nmX4 hown hK hP hD hS 0 rfl rfl 0 (by decide) hf36 (fun _ h9 => h9) rfl (by decide +kernel) rfl rfl (Nat.le_of_ble_eq_true rfl) dX4_close_56 (fun H locs hP hD hS => ?_)
      have hP : va_P D vwCl [(h0, .inr (4, [.int 1, .int (zb qq.1), .int qq.2.1, .int qq.2.2.1, .ref g1, .ref g2, .ref g3, .ref g4, .ref g5, .ref g6, .int (zb qq.2.2.2), .int (zb wi), .int (zb mo), .int mv, .int fr, .int sh, .int gr, .int cp, .int ra, .int rl])), (g2, .inl (cI, 48, .inl ow)), (g3, .inl (cI, 48, .inl nx)), (g4, .inl (cI, 17, .inl ki)), (g5, .inl (cI, 17, .inl na)), (g6, .inl (cI, 17, .inl ha))] H := hP
      have hD : va_D A [(h0, .inr (4, [.int 1, .int (zb qq.1), .int qq.2.1, .int qq.2.2.1, .ref g1, .ref g2, .ref g3, .ref g4, .ref g5, .ref g6, .int (zb qq.2.2.2), .int (zb wi), .int (zb mo), .int mv, .int fr, .int sh, .int gr, .int cp, .int ra, .int rl])), (g2, .inl (cI, 48, .inl ow)), (g3, .inl (cI, 48, .inl nx)), (g4, .inl (cI, 17, .inl ki)), (g5, .inl (cI, 17, .inl na)), (g6, .inl (cI, 17, .inl ha))] := hD
      refine lv_aload_n hx hb dX4_close_59 rfl (lv_at hl 1 rfl) ?_
      refine va_get (D := D) (ci := 4) (v := .int 1) (C := RX4) (T := TX4) (N := 20) hx hb hts hin4 hown hK hP 0 rfl rfl 0 (by decide) hf36 (fun _ h9 => h9) rfl dX4_close_60 ?_
      refine lv_if_le (tgt := 68) hx hb dX4_close_63 (by decide) (fun c_3 => ?_) (fun c_3 => ?_)
      · skip
        exact absurd c_3 (by decide)
      · skip
        refine lv_iconst (v := 0) hx hb dX4_close_66 (by decide) ?_
        have hE : m_close qq wi ow nx ki na ha p0 p1 = (0, 1, qq, ow, nx, ki) := by simp only [m_close, if_pos (z_b0 c_1)] <;> rfl
        have hPz : va_P D vwCl [(h0, .inr (4, [.int ((m_close qq wi ow nx ki na ha p0 p1).2.1), .int (zb ((m_close qq wi ow nx ki na ha p0 p1).2.2.1).1), .int (((m_close qq wi ow nx ki na ha p0 p1).2.2.1).2.1), .int (((m_close qq wi ow nx ki na ha p0 p1).2.2.1).2.2.1), .ref g1, .ref g2, .ref g3, .ref g4, .ref g5, .ref g6, .int (zb ((m_close qq wi ow nx ki na ha p0 p1).2.2.1).2.2.2), .int (zb wi), .int (zb mo), .int mv, .int fr, .int sh, .int gr, .int cp, .int ra, .int rl])), (g2, .inl (cI, 48, .inl ((m_close qq wi ow nx ki na ha p0 p1).2.2.2.1))), (g3, .inl (cI, 48, .inl ((m_close qq wi ow nx ki na ha p0 p1).2.2.2.2.1))), (g4, .inl (cI, 17, .inl ((m_close qq wi ow nx ki na ha p0 p1).2.2.2.2.2))), (g5, .inl (cI, 17, .inl na)), (g6, .inl (cI, 17, .inl ha))] H := by rw [hE]; exact hP
        have hRr : 0 = (m_close qq wi ow nx ki na ha p0 p1).1 := by first | (rw [hE]; done) | (rw [hE]; rfl)
        exact W.iret (v := 0) hx hb hr (fun t ht hW => ⟨⟨z_ret hRr, by rw [ht]; exact hPz⟩, hS.F ht⟩) hS.2.2 dX4_close_67
  · skip
    refine lv_aload_n hx hb dX4_close_7 rfl (lv_at hl 0 rfl) ?_
    refine lv_iload_n hx hb dX4_close_8 rfl (lv_at hl 1 rfl) ?_
    refine z_callRi (va_runV (As := [.int p0]) (rest := []) ⟨hx, hb, hml, hown, hts⟩ (c_X4_byHandle l D cI h0 g1 g2 g3 g4 g5 g6 code qq wi mo mv fr sh gr cp ra rl ki ha p0) (cwV 1 hts gX4_close_X4_byHandle rfl rfl rfl qd_X4_byHandle ⟨Nat.le_of_ble_eq_true rfl, Nat.le_of_ble_eq_true rfl⟩) ⟨z_Pr_blind, va_recv hK hP (ci := 4) (q0 := 0) rfl rfl, fun U hU hW => ⟨rfl, by rw [hU]; exact hP.sub (ws' := [(h0, .inr (4, [.int code, .int (zb qq.1), .int qq.2.1, .int qq.2.2.1, .ref g1, .ref g2, .ref g3, .ref g4, .ref g5, .ref g6, .int (zb qq.2.2.2), .int (zb wi), .int (zb mo), .int mv, .int fr, .int sh, .int gr, .int cp, .int ra, .int rl])), (g4, .inl (cI, 17, .inl ki)), (g6, .inl (cI, 17, .inl ha))]) [0, 3, 5] rfl, va_K.moved hW.alike hK⟩⟩ rfl rfl hl.1 rfl (lv_room (Nat.le_of_ble_eq_true rfl)) dX4_close_9 ⟨Nat.le_of_ble_eq_true rfl, Nat.le_of_ble_eq_true rfl⟩) ?_
    refine lv_goto (tgt := 16) hx hb dX4_close_12 (by decide) ?_
    refine lv_istore_n (lv' := [(3, .int (nI (m_hand ki ha p0))), (0, .ref h0), (1, .int p0), (2, .int p1)]) hx hb dX4_close_16 rfl hl (by decide) rfl (fun ls hl => ?_)
    refine lv_aload_n hx hb dX4_close_17 rfl (lv_at hl 1 rfl) ?_
    refine lv_aload_n hx hb dX4_close_18 rfl (lv_at hl 1 rfl) ?_
    refine va_get (D := D) (ci := 4) (v := .int (zb qq.1)) (C := RX4) (T := TX4) (N := 20) hx hb hts hin4 hown hK hP 0 rfl rfl 1 (by decide) hf7 (fun _ h9 => h9) rfl dX4_close_19 ?_
    refine lv_if_ne (tgt := 29) hx hb dX4_close_22 (by decide) (fun c_4 => ?_) (fun c_4 => ?_)
    · skip
      refine lv_iload_n hx hb dX4_close_29 rfl (lv_at hl 0 rfl) ?_
      refine lv_if_ne (tgt := 37) hx hb dX4_close_30 (by decide) (fun c_5 => ?_) (fun c_5 => ?_)
      · skip
        refine lv_iload_n hx hb dX4_close_37 rfl (lv_at hl 3 rfl) ?_
        refine lv_iconst (v := 1) hx hb dX4_close_38 (by decide) ?_
        refine lv_icmp_lt (tgt := 51) hx hb dX4_close_39 (by decide) (fun c_6 => ?_) (fun c_6 => ?_)
        · skip
          refine lv_iconst (v := 3) hx hb dX4_close_51 (by decide) ?_
          refine lv_goto (tgt := 56) hx hb dX4_close_52 (by decide) ?_
          refine va_put (D := D) (ci := 4) (v := .int 3) (ty := .int) (C := RX4) (T := TX4) (N := 20) hx hb hts hin4 tyX4 tyX4_ok nmX4 hown hK hP hD hS 0 rfl rfl 0 (by decide) hf36 (fun _ h9 => h9) rfl (by decide +kernel) rfl rfl (Nat.le_of_ble_eq_true rfl) dX4_close_56 (fun H locs hP hD hS => ?_)
          have hP : va_P D vwCl [(h0, .inr (4, [.int 3, .int (zb qq.1), .int qq.2.1, .int qq.2.2.1, .ref g1, .ref g2, .ref g3, .ref g4, .ref g5, .ref g6, .int (zb qq.2.2.2), .int (zb wi), .int (zb mo), .int mv, .int fr, .int sh, .int gr, .int cp, .int ra, .int rl])), (g2, .inl (cI, 48, .inl ow)), (g3, .inl (cI, 48, .inl nx)), (g4, .inl (cI, 17, .inl ki)), (g5, .inl (cI, 17, .inl na)), (g6, .inl (cI, 17, .inl ha))] H := hP
          have hD : va_D A [(h0, .inr (4, [.int 3, .int (zb qq.1), .int qq.2.1, .int qq.2.2.1, .ref g1, .ref g2, .ref g3, .ref g4, .ref g5, .ref g6, .int (zb qq.2.2.2), .int (zb wi), .int (zb mo), .int mv, .int fr, .int sh, .int gr, .int cp, .int ra, .int rl])), (g2, .inl (cI, 48, .inl ow)), (g3, .inl (cI, 48, .inl nx)), (g4, .inl (cI, 17, .inl ki)), (g5, .inl (cI, 17, .inl na)), (g6, .inl (cI, 17, .inl ha))] := hD
          refine lv_aload_n hx hb dX4_close_59 rfl (lv_at hl 1 rfl) ?_
          refine va_get (D := D) (ci := 4) (v := .int 3) (C := RX4) (T := TX4) (N := 20) hx hb hts hin4 hown hK hP 0 rfl rfl 0 (by decide) hf36 (fun _ h9 => h9) rfl dX4_close_60 ?_
          refine lv_if_le (tgt := 68) hx hb dX4_close_63 (by decide) (fun c_7 => ?_) (fun c_7 => ?_)
          · skip
            exact absurd c_7 (by decide)
          · skip
            refine lv_iconst (v := 0) hx hb dX4_close_66 (by decide) ?_
            have hE : m_close qq wi ow nx ki na ha p0 p1 = (0, 3, qq, ow, nx, ki) := by simp only [m_close, if_neg (z_b1f c_1), if_neg c_5, if_pos c_6] <;> rfl
            have hPz : va_P D vwCl [(h0, .inr (4, [.int ((m_close qq wi ow nx ki na ha p0 p1).2.1), .int (zb ((m_close qq wi ow nx ki na ha p0 p1).2.2.1).1), .int (((m_close qq wi ow nx ki na ha p0 p1).2.2.1).2.1), .int (((m_close qq wi ow nx ki na ha p0 p1).2.2.1).2.2.1), .ref g1, .ref g2, .ref g3, .ref g4, .ref g5, .ref g6, .int (zb ((m_close qq wi ow nx ki na ha p0 p1).2.2.1).2.2.2), .int (zb wi), .int (zb mo), .int mv, .int fr, .int sh, .int gr, .int cp, .int ra, .int rl])), (g2, .inl (cI, 48, .inl ((m_close qq wi ow nx ki na ha p0 p1).2.2.2.1))), (g3, .inl (cI, 48, .inl ((m_close qq wi ow nx ki na ha p0 p1).2.2.2.2.1))), (g4, .inl (cI, 17, .inl ((m_close qq wi ow nx ki na ha p0 p1).2.2.2.2.2))), (g5, .inl (cI, 17, .inl na)), (g6, .inl (cI, 17, .inl ha))] H := by rw [hE]; exact hP
            have hRr : 0 = (m_close qq wi ow nx ki na ha p0 p1).1 := by first | (rw [hE]; done) | (rw [hE]; rfl)
            exact W.iret (v := 0) hx hb hr (fun t ht hW => ⟨⟨z_ret hRr, by rw [ht]; exact hPz⟩, hS.F ht⟩) hS.2.2 dX4_close_67
        · skip
          refine lv_iload_n hx hb dX4_close_42 rfl (lv_at hl 3 rfl) ?_
          refine lv_aload_n hx hb dX4_close_43 rfl (lv_at hl 1 rfl) ?_
          refine lv_iload_n hx hb dX4_close_44 rfl (lv_at hl 0 rfl) ?_
          refine z_callRi (va_runV (As := [.int (nI (m_hand ki ha p0))]) (rest := [.int p1, .ref h0]) ⟨hx, hb, hml, hown, hts⟩ (c_X4_lengthOf l D cI h0 g1 g2 g3 g4 g5 g6 code qq wi mo mv fr sh gr cp ra rl ow (nI (m_hand ki ha p0))) (cwV 1 hts gX4_close_X4_lengthOf rfl rfl rfl qd_X4_lengthOf ⟨Nat.le_of_ble_eq_true rfl, Nat.le_of_ble_eq_true rfl⟩) ⟨z_Pr_blind, va_recv hK hP (ci := 4) (q0 := 0) rfl rfl, fun U hU hW => ⟨rfl, by rw [hU]; exact hP.sub (ws' := [(h0, .inr (4, [.int code, .int (zb qq.1), .int qq.2.1, .int qq.2.2.1, .ref g1, .ref g2, .ref g3, .ref g4, .ref g5, .ref g6, .int (zb qq.2.2.2), .int (zb wi), .int (zb mo), .int mv, .int fr, .int sh, .int gr, .int cp, .int ra, .int rl])), (g2, .inl (cI, 48, .inl ow))]) [0, 1] rfl, va_K.moved hW.alike hK⟩⟩ rfl rfl hl.1 rfl (lv_room (Nat.le_of_ble_eq_true rfl)) dX4_close_45 ⟨Nat.le_of_ble_eq_true rfl, Nat.le_of_ble_eq_true rfl⟩) ?_
          refine lv_icmp_le (tgt := 55) hx hb dX4_close_48 (by decide) (fun c_8 => ?_) (fun c_8 => ?_)
          · skip
            refine lv_iconst (v := 0) hx hb dX4_close_55 (by decide) ?_
            refine va_put (D := D) (ci := 4) (v := .int 0) (ty := .int) (C := RX4) (T := TX4) (N := 20) hx hb hts hin4 tyX4 tyX4_ok nmX4 hown hK hP hD hS 0 rfl rfl 0 (by decide) hf36 (fun _ h9 => h9) rfl (by decide +kernel) rfl rfl (Nat.le_of_ble_eq_true rfl) dX4_close_56 (fun H locs hP hD hS => ?_)
            have hP : va_P D vwCl [(h0, .inr (4, [.int 0, .int (zb qq.1), .int qq.2.1, .int qq.2.2.1, .ref g1, .ref g2, .ref g3, .ref g4, .ref g5, .ref g6, .int (zb qq.2.2.2), .int (zb wi), .int (zb mo), .int mv, .int fr, .int sh, .int gr, .int cp, .int ra, .int rl])), (g2, .inl (cI, 48, .inl ow)), (g3, .inl (cI, 48, .inl nx)), (g4, .inl (cI, 17, .inl ki)), (g5, .inl (cI, 17, .inl na)), (g6, .inl (cI, 17, .inl ha))] H := hP
            have hD : va_D A [(h0, .inr (4, [.int 0, .int (zb qq.1), .int qq.2.1, .int qq.2.2.1, .ref g1, .ref g2, .ref g3, .ref g4, .ref g5, .ref g6, .int (zb qq.2.2.2), .int (zb wi), .int (zb mo), .int mv, .int fr, .int sh, .int gr, .int cp, .int ra, .int rl])), (g2, .inl (cI, 48, .inl ow)), (g3, .inl (cI, 48, .inl nx)), (g4, .inl (cI, 17, .inl ki)), (g5, .inl (cI, 17, .inl na)), (g6, .inl (cI, 17, .inl ha))] := hD
            refine lv_aload_n hx hb dX4_close_59 rfl (lv_at hl 1 rfl) ?_
            refine va_get (D := D) (ci := 4) (v := .int 0) (C := RX4) (T := TX4) (N := 20) hx hb hts hin4 hown hK hP 0 rfl rfl 0 (by decide) hf36 (fun _ h9 => h9) rfl dX4_close_60 ?_
            refine lv_if_le (tgt := 68) hx hb dX4_close_63 (by decide) (fun c_9 => ?_) (fun c_9 => ?_)
            · skip
              refine lv_aload_n hx hb dX4_close_68 rfl (lv_at hl 1 rfl) ?_
              refine lv_aload_n hx hb dX4_close_69 rfl (lv_at hl 1 rfl) ?_
              refine va_get (D := D) (ci := 4) (v := .ref g5) (C := RX4) (T := TX4) (N := 20) hx hb hts hin4 hown hK hP 0 rfl rfl 8 (by decide) hf30 (fun _ h9 => h9) rfl dX4_close_70 ?_
              refine lv_iload_n hx hb dX4_close_73 rfl (lv_at hl 0 rfl) ?_
              refine va_iald hx hb hK hP 4 0 rfl rfl (z_ix rfl (m_hand_17 _ _ _) (by decide)) dX4_close_74 ?_
              refine W.eq (g2 := F0 m 75 ls [.int (na (m_hand ki ha p0)), .ref h0]) (by rw [z_ic rfl (m_hand_17 _ _ _) (by decide)]) ?_
              refine z_callRi (va_runV (As := [.int (na (m_hand ki ha p0))]) (rest := []) ⟨hx, hb, hml, hown, hts⟩ (c_X4_permanent l D cI h0 g1 g2 g3 g4 g5 g6 0 qq wi mo mv fr sh gr cp ra rl ki na (na (m_hand ki ha p0))) (cwV 1 hts gX4_close_X4_permanent rfl rfl rfl qd_X4_permanent ⟨Nat.le_of_ble_eq_true rfl, Nat.le_of_ble_eq_true rfl⟩) ⟨z_Pr_blind, va_recv hK hP (ci := 4) (q0 := 0) rfl rfl, fun U hU hW => ⟨rfl, by rw [hU]; exact hP.sub (ws' := [(h0, .inr (4, [.int 0, .int (zb qq.1), .int qq.2.1, .int qq.2.2.1, .ref g1, .ref g2, .ref g3, .ref g4, .ref g5, .ref g6, .int (zb qq.2.2.2), .int (zb wi), .int (zb mo), .int mv, .int fr, .int sh, .int gr, .int cp, .int ra, .int rl])), (g4, .inl (cI, 17, .inl ki)), (g5, .inl (cI, 17, .inl na))]) [0, 3, 4] rfl, va_K.moved hW.alike hK⟩⟩ rfl rfl hl.1 rfl (lv_room (Nat.le_of_ble_eq_true rfl)) dX4_close_75 ⟨Nat.le_of_ble_eq_true rfl, Nat.le_of_ble_eq_true rfl⟩) ?_
              refine lv_istore (lv' := [(4, .int (nI (m_perm ki na (na (m_hand ki ha p0))))), (3, .int (nI (m_hand ki ha p0))), (0, .ref h0), (1, .int p0), (2, .int p1)]) hx hb dX4_close_78 hl (by decide) rfl (fun ls hl => ?_)
              refine lv_aload_n hx hb dX4_close_80 rfl (lv_at hl 2 rfl) ?_
              have hPc : va_P D vwCl [(h0, .inr (4, [.int 0, .int (zb qq.1), .int qq.2.1, .int qq.2.2.1, .ref g1, .ref g2, .ref g3, .ref g4, .ref g5, .ref g6, .int (zb qq.2.2.2), .int (zb wi), .int (zb mo), .int mv, .int fr, .int sh, .int gr, .int cp, .int ra, .int rl])), (g2, .inl (cI, 48, .inl ow)), (g3, .inl (cI, 48, .inl nx))] H := hP.sub [0, 1, 2] rfl
              have hDc : va_D A [(h0, .inr (4, [.int 0, .int (zb qq.1), .int qq.2.1, .int qq.2.2.1, .ref g1, .ref g2, .ref g3, .ref g4, .ref g5, .ref g6, .int (zb qq.2.2.2), .int (zb wi), .int (zb mo), .int mv, .int fr, .int sh, .int gr, .int cp, .int ra, .int rl])), (g2, .inl (cI, 48, .inl ow)), (g3, .inl (cI, 48, .inl nx))] := hD.sub [0, 1, 2] (by decide) rfl
              refine z_callWv (ws' := [(h0, .inr (4, [.int 0, .int (zb qq.1), .int qq.2.1, .int qq.2.2.1, .ref g1, .ref g2, .ref g3, .ref g4, .ref g5, .ref g6, .int (zb qq.2.2.2), .int (zb wi), .int (zb mo), .int mv, .int fr, .int sh, .int gr, .int cp, .int ra, .int rl])), (g2, .inl (cI, 48, .inl ow)), (g3, .inl (cI, 48, .inl (m_cp nx ow))), (g4, .inl (cI, 17, .inl ki)), (g5, .inl (cI, 17, .inl na)), (g6, .inl (cI, 17, .inl ha))]) [0, 1, 2] [3, 4, 5] [(g4, .inl (cI, 17, .inl ki)), (g5, .inl (cI, 17, .inl na)), (g6, .inl (cI, 17, .inl ha))] [h0, g2, g3, g4, g5, g6] (va_runV (As := []) (rest := []) ⟨hx, hb, hml, hown, hts⟩ (c_X4_lay l D cI h0 g1 g2 g3 g4 g5 g6 0 qq wi mo mv fr sh gr cp ra rl ow nx H.size) (cwV 0 hts gX4_close_X4_lay rfl rfl rfl qd_X4_lay ⟨Nat.le_of_ble_eq_true rfl, Nat.le_of_ble_eq_true rfl⟩) ⟨z_Pw_blind, va_recv hK hP (ci := 4) (q0 := 0) rfl rfl, fun U hU hW => ⟨rfl, by rw [hU], by rw [hU]; exact hPc, va_K.moved hW.alike hK, hDc.weaken (fun _ _ _ _ => trivial)⟩⟩ rfl rfl hl.1 rfl (lv_room (Nat.le_of_ble_eq_true rfl)) dX4_close_81 ⟨Nat.le_of_ble_eq_true rfl, Nat.le_of_ble_eq_true rfl⟩) hP hD hS hA ⟨rfl, rfl, rfl, rfl, rfl, rfl, rfl⟩ (fun H locs hP hD hS => ?_)
              generalize hs_10 : m_cp nx ow = s_10 at hP hD ⊢
              refine lv_aload_n hx hb dX4_close_84 rfl (lv_at hl 2 rfl) ?_
              refine lv_iload_n hx hb dX4_close_85 rfl (lv_at hl 1 rfl) ?_
              refine lv_iload_n hx hb dX4_close_86 rfl (lv_at hl 4 rfl) ?_
              have hPc : va_P D vwCl [(h0, .inr (4, [.int 0, .int (zb qq.1), .int qq.2.1, .int qq.2.2.1, .ref g1, .ref g2, .ref g3, .ref g4, .ref g5, .ref g6, .int (zb qq.2.2.2), .int (zb wi), .int (zb mo), .int mv, .int fr, .int sh, .int gr, .int cp, .int ra, .int rl])), (g2, .inl (cI, 48, .inl ow)), (g3, .inl (cI, 48, .inl s_10))] H := hP.sub [0, 1, 2] rfl
              have hDc : va_D A [(h0, .inr (4, [.int 0, .int (zb qq.1), .int qq.2.1, .int qq.2.2.1, .ref g1, .ref g2, .ref g3, .ref g4, .ref g5, .ref g6, .int (zb qq.2.2.2), .int (zb wi), .int (zb mo), .int mv, .int fr, .int sh, .int gr, .int cp, .int ra, .int rl])), (g2, .inl (cI, 48, .inl ow)), (g3, .inl (cI, 48, .inl s_10))] := hD.sub [0, 1, 2] (by decide) rfl
              refine z_callWv (ws' := [(h0, .inr (4, [.int 0, .int (zb qq.1), .int qq.2.1, .int qq.2.2.1, .ref g1, .ref g2, .ref g3, .ref g4, .ref g5, .ref g6, .int (zb qq.2.2.2), .int (zb wi), .int (zb mo), .int mv, .int fr, .int sh, .int gr, .int cp, .int ra, .int rl])), (g2, .inl (cI, 48, .inl ow)), (g3, .inl (cI, 48, .inl (m_gv ow s_10 (nI (m_hand ki ha p0)) p1))), (g4, .inl (cI, 17, .inl ki)), (g5, .inl (cI, 17, .inl na)), (g6, .inl (cI, 17, .inl ha))]) [0, 1, 2] [3, 4, 5] [(g4, .inl (cI, 17, .inl ki)), (g5, .inl (cI, 17, .inl na)), (g6, .inl (cI, 17, .inl ha))] [h0, g2, g3, g4, g5, g6] (va_runV (As := [.int (nI (m_hand ki ha p0)), .int p1]) (rest := []) ⟨hx, hb, hml, hown, hts⟩ (c_X4_giveUp l D cI h0 g1 g2 g3 g4 g5 g6 0 qq wi mo mv fr sh gr cp ra rl ow s_10 (nI (m_hand ki ha p0)) p1 H.size) (cwV 2 hts gX4_close_X4_giveUp rfl rfl rfl qd_X4_giveUp ⟨Nat.le_of_ble_eq_true rfl, Nat.le_of_ble_eq_true rfl⟩) ⟨z_Pw_blind, va_recv hK hP (ci := 4) (q0 := 0) rfl rfl, fun U hU hW => ⟨rfl, by rw [hU], by rw [hU]; exact hPc, va_K.moved hW.alike hK, hDc.weaken (fun _ _ _ _ => trivial)⟩⟩ rfl rfl hl.1 rfl (lv_room (Nat.le_of_ble_eq_true rfl)) dX4_close_87 ⟨Nat.le_of_ble_eq_true rfl, Nat.le_of_ble_eq_true rfl⟩) hP hD hS hA ⟨rfl, rfl, rfl, rfl, rfl, rfl, rfl⟩ (fun H locs hP hD hS => ?_)
              generalize hs_11 : m_gv ow s_10 (nI (m_hand ki ha p0)) p1 = s_11 at hP hD ⊢
              refine lv_aload_n hx hb dX4_close_90 rfl (lv_at hl 2 rfl) ?_
              refine lv_iload_n hx hb dX4_close_91 rfl (lv_at hl 1 rfl) ?_
              refine z_callRi (va_runV (As := [.int (nI (m_hand ki ha p0))]) (rest := []) ⟨hx, hb, hml, hown, hts⟩ (c_X4_lengthOf l D cI h0 g1 g2 g3 g4 g5 g6 0 qq wi mo mv fr sh gr cp ra rl ow (nI (m_hand ki ha p0))) (cwV 1 hts gX4_close_X4_lengthOf rfl rfl rfl qd_X4_lengthOf ⟨Nat.le_of_ble_eq_true rfl, Nat.le_of_ble_eq_true rfl⟩) ⟨z_Pr_blind, va_recv hK hP (ci := 4) (q0 := 0) rfl rfl, fun U hU hW => ⟨rfl, by rw [hU]; exact hP.sub (ws' := [(h0, .inr (4, [.int 0, .int (zb qq.1), .int qq.2.1, .int qq.2.2.1, .ref g1, .ref g2, .ref g3, .ref g4, .ref g5, .ref g6, .int (zb qq.2.2.2), .int (zb wi), .int (zb mo), .int mv, .int fr, .int sh, .int gr, .int cp, .int ra, .int rl])), (g2, .inl (cI, 48, .inl ow))]) [0, 1] rfl, va_K.moved hW.alike hK⟩⟩ rfl rfl hl.1 rfl (lv_room (Nat.le_of_ble_eq_true rfl)) dX4_close_92 ⟨Nat.le_of_ble_eq_true rfl, Nat.le_of_ble_eq_true rfl⟩) ?_
              refine lv_iload_n hx hb dX4_close_95 rfl (lv_at hl 4 rfl) ?_
              refine lv_isub hx hb dX4_close_96 ?_
              refine lv_istore (lv' := [(5, .int ((m_cnt ow (nI (m_hand ki ha p0)) 48) - p1)), (4, .int (nI (m_perm ki na (na (m_hand ki ha p0))))), (3, .int (nI (m_hand ki ha p0))), (0, .ref h0), (1, .int p0), (2, .int p1)]) hx hb dX4_close_97 hl (by decide) rfl (fun ls hl => ?_)
              refine lv_iload hx hb dX4_close_99 (lv_at hl 1 rfl) ?_
              refine lv_if_le (tgt := 122) hx hb dX4_close_101 (by decide) (fun c_12 => ?_) (fun c_12 => ?_)
              · skip
                refine lv_aload_n hx hb dX4_close_122 rfl (lv_at hl 3 rfl) ?_
                refine lv_aload_n hx hb dX4_close_123 rfl (lv_at hl 3 rfl) ?_
                refine z_callRi (va_runV (As := []) (rest := [.ref h0]) ⟨hx, hb, hml, hown, hts⟩ (c_X4_runs l D cI h0 g1 g2 g3 g4 g5 g6 0 qq wi mo mv fr sh gr cp ra rl s_11) (cwV 0 hts gX4_close_X4_runs rfl rfl rfl qd_X4_runs ⟨Nat.le_of_ble_eq_true rfl, Nat.le_of_ble_eq_true rfl⟩) ⟨z_Pr_blind, va_recv hK hP (ci := 4) (q0 := 0) rfl rfl, fun U hU hW => ⟨rfl, by rw [hU]; exact hP.sub (ws' := [(h0, .inr (4, [.int 0, .int (zb qq.1), .int qq.2.1, .int qq.2.2.1, .ref g1, .ref g2, .ref g3, .ref g4, .ref g5, .ref g6, .int (zb qq.2.2.2), .int (zb wi), .int (zb mo), .int mv, .int fr, .int sh, .int gr, .int cp, .int ra, .int rl])), (g3, .inl (cI, 48, .inl s_11))]) [0, 2] rfl, va_K.moved hW.alike hK⟩⟩ rfl rfl hl.1 rfl (lv_room (Nat.le_of_ble_eq_true rfl)) dX4_close_124 ⟨Nat.le_of_ble_eq_true rfl, Nat.le_of_ble_eq_true rfl⟩) ?_
                refine lv_bipush (v := 16) hx hb dX4_close_127 (by decide) ?_
                refine lv_icmp_le (tgt := 136) hx hb dX4_close_129 (by decide) (fun c_13 => ?_) (fun c_13 => ?_)
                · skip
                  refine lv_iconst (v := 0) hx hb dX4_close_136 (by decide) ?_
                  refine va_put (D := D) (ci := 4) (v := .int 0) (ty := .int) (C := RX4) (T := TX4) (N := 20) hx hb hts hin4 tyX4 tyX4_ok nmX4 hown hK hP hD hS 0 rfl rfl 0 (by decide) hf36 (fun _ h9 => h9) rfl (by decide +kernel) rfl rfl (Nat.le_of_ble_eq_true rfl) dX4_close_137 (fun H locs hP hD hS => ?_)
                  have hP : va_P D vwCl [(h0, .inr (4, [.int 0, .int (zb qq.1), .int qq.2.1, .int qq.2.2.1, .ref g1, .ref g2, .ref g3, .ref g4, .ref g5, .ref g6, .int (zb qq.2.2.2), .int (zb wi), .int (zb mo), .int mv, .int fr, .int sh, .int gr, .int cp, .int ra, .int rl])), (g2, .inl (cI, 48, .inl ow)), (g3, .inl (cI, 48, .inl s_11)), (g4, .inl (cI, 17, .inl ki)), (g5, .inl (cI, 17, .inl na)), (g6, .inl (cI, 17, .inl ha))] H := hP
                  have hD : va_D A [(h0, .inr (4, [.int 0, .int (zb qq.1), .int qq.2.1, .int qq.2.2.1, .ref g1, .ref g2, .ref g3, .ref g4, .ref g5, .ref g6, .int (zb qq.2.2.2), .int (zb wi), .int (zb mo), .int mv, .int fr, .int sh, .int gr, .int cp, .int ra, .int rl])), (g2, .inl (cI, 48, .inl ow)), (g3, .inl (cI, 48, .inl s_11)), (g4, .inl (cI, 17, .inl ki)), (g5, .inl (cI, 17, .inl na)), (g6, .inl (cI, 17, .inl ha))] := hD
                  refine lv_aload_n hx hb dX4_close_140 rfl (lv_at hl 3 rfl) ?_
                  refine va_get (D := D) (ci := 4) (v := .int 0) (C := RX4) (T := TX4) (N := 20) hx hb hts hin4 hown hK hP 0 rfl rfl 0 (by decide) hf36 (fun _ h9 => h9) rfl dX4_close_141 ?_
                  refine lv_if_le (tgt := 149) hx hb dX4_close_144 (by decide) (fun c_14 => ?_) (fun c_14 => ?_)
                  · skip
                    refine lv_aload_n hx hb dX4_close_149 rfl (lv_at hl 3 rfl) ?_
                    have hPc : va_P D vwCl [(h0, .inr (4, [.int 0, .int (zb qq.1), .int qq.2.1, .int qq.2.2.1, .ref g1, .ref g2, .ref g3, .ref g4, .ref g5, .ref g6, .int (zb qq.2.2.2), .int (zb wi), .int (zb mo), .int mv, .int fr, .int sh, .int gr, .int cp, .int ra, .int rl])), (g2, .inl (cI, 48, .inl ow)), (g3, .inl (cI, 48, .inl s_11))] H := hP.sub [0, 1, 2] rfl
                    have hDc : va_D A [(h0, .inr (4, [.int 0, .int (zb qq.1), .int qq.2.1, .int qq.2.2.1, .ref g1, .ref g2, .ref g3, .ref g4, .ref g5, .ref g6, .int (zb qq.2.2.2), .int (zb wi), .int (zb mo), .int mv, .int fr, .int sh, .int gr, .int cp, .int ra, .int rl])), (g2, .inl (cI, 48, .inl ow)), (g3, .inl (cI, 48, .inl s_11))] := hD.sub [0, 1, 2] (by decide) rfl
                    refine z_callWi (ws' := [(h0, .inr (4, [.int 0, .int (zb ((m_change qq wi ow s_11).2.1).1), .int (((m_change qq wi ow s_11).2.1).2.1), .int (((m_change qq wi ow s_11).2.1).2.2.1), .ref g1, .ref g2, .ref g3, .ref g4, .ref g5, .ref g6, .int (zb ((m_change qq wi ow s_11).2.1).2.2.2), .int (zb wi), .int (zb mo), .int mv, .int fr, .int sh, .int gr, .int cp, .int ra, .int rl])), (g2, .inl (cI, 48, .inl ((m_change qq wi ow s_11).2.2))), (g3, .inl (cI, 48, .inl s_11)), (g4, .inl (cI, 17, .inl ki)), (g5, .inl (cI, 17, .inl na)), (g6, .inl (cI, 17, .inl ha))]) [0, 1, 2] [3, 4, 5] [(g4, .inl (cI, 17, .inl ki)), (g5, .inl (cI, 17, .inl na)), (g6, .inl (cI, 17, .inl ha))] [h0, g2, g3, g4, g5, g6] (va_runV (As := []) (rest := []) ⟨hx, hb, hml, hown, hts⟩ (c_X4_change l D cI h0 g1 g2 g3 g4 g5 g6 0 qq wi mo mv fr sh gr cp ra rl ow s_11 H.size) (cwV 0 hts gX4_close_X4_change rfl rfl rfl qd_X4_change ⟨Nat.le_of_ble_eq_true rfl, Nat.le_of_ble_eq_true rfl⟩) ⟨z_Pw_blind, va_recv hK hP (ci := 4) (q0 := 0) rfl rfl, fun U hU hW => ⟨rfl, by rw [hU], by rw [hU]; exact hPc, va_K.moved hW.alike hK, hDc.weaken (fun _ _ _ _ => trivial)⟩⟩ rfl rfl hl.1 rfl (lv_room (Nat.le_of_ble_eq_true rfl)) dX4_close_150 ⟨Nat.le_of_ble_eq_true rfl, Nat.le_of_ble_eq_true rfl⟩) hP hD hS hA ⟨rfl, rfl, rfl, rfl, rfl, rfl, rfl⟩ (fun H locs hP hD hS => ?_)
                    generalize hs_15 : m_change qq wi ow s_11 = s_15 at hP hD ⊢
                    refine lv_if_ne (tgt := 158) hx hb dX4_close_153 (by decide) (fun c_16 => ?_) (fun c_16 => ?_)
                    · skip
                      refine lv_iload hx hb dX4_close_158 (lv_at hl 1 rfl) ?_
                      refine lv_if_le (tgt := 171) hx hb dX4_close_160 (by decide) (fun c_17 => ?_) (fun c_17 => ?_)
                      · skip
                        refine lv_aload_n hx hb dX4_close_171 rfl (lv_at hl 3 rfl) ?_
                        refine va_get (D := D) (ci := 4) (v := .ref g4) (C := RX4) (T := TX4) (N := 20) hx hb hts hin4 hown hK hP 0 rfl rfl 7 (by decide) hf27 (fun _ h9 => h9) rfl dX4_close_172 ?_
                        refine lv_iload_n hx hb dX4_close_175 rfl (lv_at hl 2 rfl) ?_
                        refine lv_iconst (v := 2) hx hb dX4_close_176 (by decide) ?_
                        refine va_iast hx hb hK hP hD hS 3 0 rfl rfl (z_ix rfl (m_hand_17 _ _ _) (by decide)) dX4_close_177 (fun H locs hP hD hS => ?_)
                        rw [z_ic rfl (m_hand_17 _ _ _) (by decide)] at hP hD
                        have hP : va_P D vwCl [(h0, .inr (4, [.int 0, .int (zb (s_15.2.1).1), .int ((s_15.2.1).2.1), .int ((s_15.2.1).2.2.1), .ref g1, .ref g2, .ref g3, .ref g4, .ref g5, .ref g6, .int (zb (s_15.2.1).2.2.2), .int (zb wi), .int (zb mo), .int mv, .int fr, .int sh, .int gr, .int cp, .int ra, .int rl])), (g2, .inl (cI, 48, .inl s_15.2.2)), (g3, .inl (cI, 48, .inl s_11)), (g4, .inl (cI, 17, .inl (upd ki (m_hand ki ha p0) 2))), (g5, .inl (cI, 17, .inl na)), (g6, .inl (cI, 17, .inl ha))] H := hP
                        have hD : va_D A [(h0, .inr (4, [.int 0, .int (zb (s_15.2.1).1), .int ((s_15.2.1).2.1), .int ((s_15.2.1).2.2.1), .ref g1, .ref g2, .ref g3, .ref g4, .ref g5, .ref g6, .int (zb (s_15.2.1).2.2.2), .int (zb wi), .int (zb mo), .int mv, .int fr, .int sh, .int gr, .int cp, .int ra, .int rl])), (g2, .inl (cI, 48, .inl s_15.2.2)), (g3, .inl (cI, 48, .inl s_11)), (g4, .inl (cI, 17, .inl (upd ki (m_hand ki ha p0) 2))), (g5, .inl (cI, 17, .inl na)), (g6, .inl (cI, 17, .inl ha))] := hD
                        refine lv_iload hx hb dX4_close_178 (lv_at hl 0 rfl) ?_
                        have hE : m_close qq wi ow nx ki na ha p0 p1 = ((m_cnt ow (nI (m_hand ki ha p0)) 48) - p1, 0, s_15.2.1, s_15.2.2, s_11, upd ki (m_hand ki ha p0) 2) := by subst hs_15 hs_11 hs_10; simp only [m_close, if_neg (z_b1f c_1), if_neg c_5, if_neg c_6, if_pos c_8, if_pos c_12, if_pos c_13, if_neg (z_b1f c_16)] <;> rfl
                        have hPz : va_P D vwCl [(h0, .inr (4, [.int ((m_close qq wi ow nx ki na ha p0 p1).2.1), .int (zb ((m_close qq wi ow nx ki na ha p0 p1).2.2.1).1), .int (((m_close qq wi ow nx ki na ha p0 p1).2.2.1).2.1), .int (((m_close qq wi ow nx ki na ha p0 p1).2.2.1).2.2.1), .ref g1, .ref g2, .ref g3, .ref g4, .ref g5, .ref g6, .int (zb ((m_close qq wi ow nx ki na ha p0 p1).2.2.1).2.2.2), .int (zb wi), .int (zb mo), .int mv, .int fr, .int sh, .int gr, .int cp, .int ra, .int rl])), (g2, .inl (cI, 48, .inl ((m_close qq wi ow nx ki na ha p0 p1).2.2.2.1))), (g3, .inl (cI, 48, .inl ((m_close qq wi ow nx ki na ha p0 p1).2.2.2.2.1))), (g4, .inl (cI, 17, .inl ((m_close qq wi ow nx ki na ha p0 p1).2.2.2.2.2))), (g5, .inl (cI, 17, .inl na)), (g6, .inl (cI, 17, .inl ha))] H := by rw [hE]; exact hP
                        have hRr : (m_cnt ow (nI (m_hand ki ha p0)) 48) - p1 = (m_close qq wi ow nx ki na ha p0 p1).1 := by first | (rw [hE]; done) | (rw [hE]; rfl)
                        exact W.iret (v := (m_cnt ow (nI (m_hand ki ha p0)) 48) - p1) hx hb hr (fun t ht hW => ⟨⟨z_ret hRr, by rw [ht]; exact hPz⟩, hS.F ht⟩) hS.2.2 dX4_close_180
                      · skip
                        exact absurd c_12 c_17
                    · skip
                      refine lv_iconst (v := -1) hx hb dX4_close_156 (by decide) ?_
                      have hE : m_close qq wi ow nx ki na ha p0 p1 = (-1, 0, s_15.2.1, s_15.2.2, s_11, ki) := by subst hs_15 hs_11 hs_10; simp only [m_close, if_neg (z_b1f c_1), if_neg c_5, if_neg c_6, if_pos c_8, if_pos c_12, if_pos c_13, if_pos (z_b0 c_16)] <;> rfl
                      have hPz : va_P D vwCl [(h0, .inr (4, [.int ((m_close qq wi ow nx ki na ha p0 p1).2.1), .int (zb ((m_close qq wi ow nx ki na ha p0 p1).2.2.1).1), .int (((m_close qq wi ow nx ki na ha p0 p1).2.2.1).2.1), .int (((m_close qq wi ow nx ki na ha p0 p1).2.2.1).2.2.1), .ref g1, .ref g2, .ref g3, .ref g4, .ref g5, .ref g6, .int (zb ((m_close qq wi ow nx ki na ha p0 p1).2.2.1).2.2.2), .int (zb wi), .int (zb mo), .int mv, .int fr, .int sh, .int gr, .int cp, .int ra, .int rl])), (g2, .inl (cI, 48, .inl ((m_close qq wi ow nx ki na ha p0 p1).2.2.2.1))), (g3, .inl (cI, 48, .inl ((m_close qq wi ow nx ki na ha p0 p1).2.2.2.2.1))), (g4, .inl (cI, 17, .inl ((m_close qq wi ow nx ki na ha p0 p1).2.2.2.2.2))), (g5, .inl (cI, 17, .inl na)), (g6, .inl (cI, 17, .inl ha))] H := by rw [hE]; exact hP
                      have hRr : -1 = (m_close qq wi ow nx ki na ha p0 p1).1 := by first | (rw [hE]; done) | (rw [hE]; rfl)
                      exact W.iret (v := -1) hx hb hr (fun t ht hW => ⟨⟨z_ret hRr, by rw [ht]; exact hPz⟩, hS.F ht⟩) hS.2.2 dX4_close_157
                  · skip
                    exact absurd (by decide) c_14
                · skip
                  refine lv_iconst (v := 4) hx hb dX4_close_132 (by decide) ?_
                  refine lv_goto (tgt := 137) hx hb dX4_close_133 (by decide) ?_
                  refine va_put (D := D) (ci := 4) (v := .int 4) (ty := .int) (C := RX4) (T := TX4) (N := 20) hx hb hts hin4 tyX4 tyX4_ok nmX4 hown hK hP hD hS 0 rfl rfl 0 (by decide) hf36 (fun _ h9 => h9) rfl (by decide +kernel) rfl rfl (Nat.le_of_ble_eq_true rfl) dX4_close_137 (fun H locs hP hD hS => ?_)
                  have hP : va_P D vwCl [(h0, .inr (4, [.int 4, .int (zb qq.1), .int qq.2.1, .int qq.2.2.1, .ref g1, .ref g2, .ref g3, .ref g4, .ref g5, .ref g6, .int (zb qq.2.2.2), .int (zb wi), .int (zb mo), .int mv, .int fr, .int sh, .int gr, .int cp, .int ra, .int rl])), (g2, .inl (cI, 48, .inl ow)), (g3, .inl (cI, 48, .inl s_11)), (g4, .inl (cI, 17, .inl ki)), (g5, .inl (cI, 17, .inl na)), (g6, .inl (cI, 17, .inl ha))] H := hP
                  have hD : va_D A [(h0, .inr (4, [.int 4, .int (zb qq.1), .int qq.2.1, .int qq.2.2.1, .ref g1, .ref g2, .ref g3, .ref g4, .ref g5, .ref g6, .int (zb qq.2.2.2), .int (zb wi), .int (zb mo), .int mv, .int fr, .int sh, .int gr, .int cp, .int ra, .int rl])), (g2, .inl (cI, 48, .inl ow)), (g3, .inl (cI, 48, .inl s_11)), (g4, .inl (cI, 17, .inl ki)), (g5, .inl (cI, 17, .inl na)), (g6, .inl (cI, 17, .inl ha))] := hD
                  refine lv_aload_n hx hb dX4_close_140 rfl (lv_at hl 3 rfl) ?_
                  refine va_get (D := D) (ci := 4) (v := .int 4) (C := RX4) (T := TX4) (N := 20) hx hb hts hin4 hown hK hP 0 rfl rfl 0 (by decide) hf36 (fun _ h9 => h9) rfl dX4_close_141 ?_
                  refine lv_if_le (tgt := 149) hx hb dX4_close_144 (by decide) (fun c_18 => ?_) (fun c_18 => ?_)
                  · skip
                    exact absurd c_18 (by decide)
                  · skip
                    refine lv_iconst (v := 0) hx hb dX4_close_147 (by decide) ?_
                    have hE : m_close qq wi ow nx ki na ha p0 p1 = (0, 4, qq, ow, s_11, ki) := by subst hs_11 hs_10; simp only [m_close, if_neg (z_b1f c_1), if_neg c_5, if_neg c_6, if_pos c_8, if_pos c_12, if_neg c_13] <;> rfl
                    have hPz : va_P D vwCl [(h0, .inr (4, [.int ((m_close qq wi ow nx ki na ha p0 p1).2.1), .int (zb ((m_close qq wi ow nx ki na ha p0 p1).2.2.1).1), .int (((m_close qq wi ow nx ki na ha p0 p1).2.2.1).2.1), .int (((m_close qq wi ow nx ki na ha p0 p1).2.2.1).2.2.1), .ref g1, .ref g2, .ref g3, .ref g4, .ref g5, .ref g6, .int (zb ((m_close qq wi ow nx ki na ha p0 p1).2.2.1).2.2.2), .int (zb wi), .int (zb mo), .int mv, .int fr, .int sh, .int gr, .int cp, .int ra, .int rl])), (g2, .inl (cI, 48, .inl ((m_close qq wi ow nx ki na ha p0 p1).2.2.2.1))), (g3, .inl (cI, 48, .inl ((m_close qq wi ow nx ki na ha p0 p1).2.2.2.2.1))), (g4, .inl (cI, 17, .inl ((m_close qq wi ow nx ki na ha p0 p1).2.2.2.2.2))), (g5, .inl (cI, 17, .inl na)), (g6, .inl (cI, 17, .inl ha))] H := by rw [hE]; exact hP
                    have hRr : 0 = (m_close qq wi ow nx ki na ha p0 p1).1 := by first | (rw [hE]; done) | (rw [hE]; rfl)
                    exact W.iret (v := 0) hx hb hr (fun t ht hW => ⟨⟨z_ret hRr, by rw [ht]; exact hPz⟩, hS.F ht⟩) hS.2.2 dX4_close_148
              · skip
                refine lv_aload_n hx hb dX4_close_104 rfl (lv_at hl 3 rfl) ?_
                refine lv_iload hx hb dX4_close_105 (lv_at hl 1 rfl) ?_
                refine lv_iconst (v := 0) hx hb dX4_close_107 (by decide) ?_
                have hPc : va_P D vwCl [(h0, .inr (4, [.int 0, .int (zb qq.1), .int qq.2.1, .int qq.2.2.1, .ref g1, .ref g2, .ref g3, .ref g4, .ref g5, .ref g6, .int (zb qq.2.2.2), .int (zb wi), .int (zb mo), .int mv, .int fr, .int sh, .int gr, .int cp, .int ra, .int rl])), (g2, .inl (cI, 48, .inl ow)), (g3, .inl (cI, 48, .inl s_11))] H := hP.sub [0, 1, 2] rfl
                have hDc : va_D A [(h0, .inr (4, [.int 0, .int (zb qq.1), .int qq.2.1, .int qq.2.2.1, .ref g1, .ref g2, .ref g3, .ref g4, .ref g5, .ref g6, .int (zb qq.2.2.2), .int (zb wi), .int (zb mo), .int mv, .int fr, .int sh, .int gr, .int cp, .int ra, .int rl])), (g2, .inl (cI, 48, .inl ow)), (g3, .inl (cI, 48, .inl s_11))] := hD.sub [0, 1, 2] (by decide) rfl
                refine z_callWv (ws' := [(h0, .inr (4, [.int 0, .int (zb qq.1), .int qq.2.1, .int qq.2.2.1, .ref g1, .ref g2, .ref g3, .ref g4, .ref g5, .ref g6, .int (zb qq.2.2.2), .int (zb wi), .int (zb mo), .int mv, .int fr, .int sh, .int gr, .int cp, .int ra, .int rl])), (g2, .inl (cI, 48, .inl ow)), (g3, .inl (cI, 48, .inl (m_gv ow s_11 (nI (m_perm ki na (na (m_hand ki ha p0)))) 0))), (g4, .inl (cI, 17, .inl ki)), (g5, .inl (cI, 17, .inl na)), (g6, .inl (cI, 17, .inl ha))]) [0, 1, 2] [3, 4, 5] [(g4, .inl (cI, 17, .inl ki)), (g5, .inl (cI, 17, .inl na)), (g6, .inl (cI, 17, .inl ha))] [h0, g2, g3, g4, g5, g6] (va_runV (As := [.int (nI (m_perm ki na (na (m_hand ki ha p0)))), .int 0]) (rest := []) ⟨hx, hb, hml, hown, hts⟩ (c_X4_giveUp l D cI h0 g1 g2 g3 g4 g5 g6 0 qq wi mo mv fr sh gr cp ra rl ow s_11 (nI (m_perm ki na (na (m_hand ki ha p0)))) 0 H.size) (cwV 2 hts gX4_close_X4_giveUp rfl rfl rfl qd_X4_giveUp ⟨Nat.le_of_ble_eq_true rfl, Nat.le_of_ble_eq_true rfl⟩) ⟨z_Pw_blind, va_recv hK hP (ci := 4) (q0 := 0) rfl rfl, fun U hU hW => ⟨rfl, by rw [hU], by rw [hU]; exact hPc, va_K.moved hW.alike hK, hDc.weaken (fun _ _ _ _ => trivial)⟩⟩ rfl rfl hl.1 rfl (lv_room (Nat.le_of_ble_eq_true rfl)) dX4_close_108 ⟨Nat.le_of_ble_eq_true rfl, Nat.le_of_ble_eq_true rfl⟩) hP hD hS hA ⟨rfl, rfl, rfl, rfl, rfl, rfl, rfl⟩ (fun H locs hP hD hS => ?_)
                generalize hs_19 : m_gv ow s_11 (nI (m_perm ki na (na (m_hand ki ha p0)))) 0 = s_19 at hP hD ⊢
                refine lv_iload hx hb dX4_close_111 (lv_at hl 0 rfl) ?_
                refine lv_aload_n hx hb dX4_close_113 rfl (lv_at hl 3 rfl) ?_
                refine lv_iload hx hb dX4_close_114 (lv_at hl 1 rfl) ?_
                refine z_callRi (va_runV (As := [.int (nI (m_perm ki na (na (m_hand ki ha p0))))]) (rest := [.int ((m_cnt ow (nI (m_hand ki ha p0)) 48) - p1)]) ⟨hx, hb, hml, hown, hts⟩ (c_X4_lengthOf l D cI h0 g1 g2 g3 g4 g5 g6 0 qq wi mo mv fr sh gr cp ra rl ow (nI (m_perm ki na (na (m_hand ki ha p0))))) (cwV 1 hts gX4_close_X4_lengthOf rfl rfl rfl qd_X4_lengthOf ⟨Nat.le_of_ble_eq_true rfl, Nat.le_of_ble_eq_true rfl⟩) ⟨z_Pr_blind, va_recv hK hP (ci := 4) (q0 := 0) rfl rfl, fun U hU hW => ⟨rfl, by rw [hU]; exact hP.sub (ws' := [(h0, .inr (4, [.int 0, .int (zb qq.1), .int qq.2.1, .int qq.2.2.1, .ref g1, .ref g2, .ref g3, .ref g4, .ref g5, .ref g6, .int (zb qq.2.2.2), .int (zb wi), .int (zb mo), .int mv, .int fr, .int sh, .int gr, .int cp, .int ra, .int rl])), (g2, .inl (cI, 48, .inl ow))]) [0, 1] rfl, va_K.moved hW.alike hK⟩⟩ rfl rfl hl.1 rfl (lv_room (Nat.le_of_ble_eq_true rfl)) dX4_close_116 ⟨Nat.le_of_ble_eq_true rfl, Nat.le_of_ble_eq_true rfl⟩) ?_
                refine lv_iadd hx hb dX4_close_119 ?_
                refine lv_istore (lv' := [(5, .int (((m_cnt ow (nI (m_hand ki ha p0)) 48) - p1) + (m_cnt ow (nI (m_perm ki na (na (m_hand ki ha p0)))) 48))), (4, .int (nI (m_perm ki na (na (m_hand ki ha p0))))), (3, .int (nI (m_hand ki ha p0))), (0, .ref h0), (1, .int p0), (2, .int p1)]) hx hb dX4_close_120 hl (by decide) rfl (fun ls hl => ?_)
                refine lv_aload_n hx hb dX4_close_122 rfl (lv_at hl 3 rfl) ?_
                refine lv_aload_n hx hb dX4_close_123 rfl (lv_at hl 3 rfl) ?_
                refine z_callRi (va_runV (As := []) (rest := [.ref h0]) ⟨hx, hb, hml, hown, hts⟩ (c_X4_runs l D cI h0 g1 g2 g3 g4 g5 g6 0 qq wi mo mv fr sh gr cp ra rl s_19) (cwV 0 hts gX4_close_X4_runs rfl rfl rfl qd_X4_runs ⟨Nat.le_of_ble_eq_true rfl, Nat.le_of_ble_eq_true rfl⟩) ⟨z_Pr_blind, va_recv hK hP (ci := 4) (q0 := 0) rfl rfl, fun U hU hW => ⟨rfl, by rw [hU]; exact hP.sub (ws' := [(h0, .inr (4, [.int 0, .int (zb qq.1), .int qq.2.1, .int qq.2.2.1, .ref g1, .ref g2, .ref g3, .ref g4, .ref g5, .ref g6, .int (zb qq.2.2.2), .int (zb wi), .int (zb mo), .int mv, .int fr, .int sh, .int gr, .int cp, .int ra, .int rl])), (g3, .inl (cI, 48, .inl s_19))]) [0, 2] rfl, va_K.moved hW.alike hK⟩⟩ rfl rfl hl.1 rfl (lv_room (Nat.le_of_ble_eq_true rfl)) dX4_close_124 ⟨Nat.le_of_ble_eq_true rfl, Nat.le_of_ble_eq_true rfl⟩) ?_
                refine lv_bipush (v := 16) hx hb dX4_close_127 (by decide) ?_
                refine lv_icmp_le (tgt := 136) hx hb dX4_close_129 (by decide) (fun c_20 => ?_) (fun c_20 => ?_)
                · skip
                  refine lv_iconst (v := 0) hx hb dX4_close_136 (by decide) ?_
                  refine va_put (D := D) (ci := 4) (v := .int 0) (ty := .int) (C := RX4) (T := TX4) (N := 20) hx hb hts hin4 tyX4 tyX4_ok nmX4 hown hK hP hD hS 0 rfl rfl 0 (by decide) hf36 (fun _ h9 => h9) rfl (by decide +kernel) rfl rfl (Nat.le_of_ble_eq_true rfl) dX4_close_137 (fun H locs hP hD hS => ?_)
                  have hP : va_P D vwCl [(h0, .inr (4, [.int 0, .int (zb qq.1), .int qq.2.1, .int qq.2.2.1, .ref g1, .ref g2, .ref g3, .ref g4, .ref g5, .ref g6, .int (zb qq.2.2.2), .int (zb wi), .int (zb mo), .int mv, .int fr, .int sh, .int gr, .int cp, .int ra, .int rl])), (g2, .inl (cI, 48, .inl ow)), (g3, .inl (cI, 48, .inl s_19)), (g4, .inl (cI, 17, .inl ki)), (g5, .inl (cI, 17, .inl na)), (g6, .inl (cI, 17, .inl ha))] H := hP
                  have hD : va_D A [(h0, .inr (4, [.int 0, .int (zb qq.1), .int qq.2.1, .int qq.2.2.1, .ref g1, .ref g2, .ref g3, .ref g4, .ref g5, .ref g6, .int (zb qq.2.2.2), .int (zb wi), .int (zb mo), .int mv, .int fr, .int sh, .int gr, .int cp, .int ra, .int rl])), (g2, .inl (cI, 48, .inl ow)), (g3, .inl (cI, 48, .inl s_19)), (g4, .inl (cI, 17, .inl ki)), (g5, .inl (cI, 17, .inl na)), (g6, .inl (cI, 17, .inl ha))] := hD
                  refine lv_aload_n hx hb dX4_close_140 rfl (lv_at hl 3 rfl) ?_
                  refine va_get (D := D) (ci := 4) (v := .int 0) (C := RX4) (T := TX4) (N := 20) hx hb hts hin4 hown hK hP 0 rfl rfl 0 (by decide) hf36 (fun _ h9 => h9) rfl dX4_close_141 ?_
                  refine lv_if_le (tgt := 149) hx hb dX4_close_144 (by decide) (fun c_21 => ?_) (fun c_21 => ?_)
                  · skip
                    refine lv_aload_n hx hb dX4_close_149 rfl (lv_at hl 3 rfl) ?_
                    have hPc : va_P D vwCl [(h0, .inr (4, [.int 0, .int (zb qq.1), .int qq.2.1, .int qq.2.2.1, .ref g1, .ref g2, .ref g3, .ref g4, .ref g5, .ref g6, .int (zb qq.2.2.2), .int (zb wi), .int (zb mo), .int mv, .int fr, .int sh, .int gr, .int cp, .int ra, .int rl])), (g2, .inl (cI, 48, .inl ow)), (g3, .inl (cI, 48, .inl s_19))] H := hP.sub [0, 1, 2] rfl
                    have hDc : va_D A [(h0, .inr (4, [.int 0, .int (zb qq.1), .int qq.2.1, .int qq.2.2.1, .ref g1, .ref g2, .ref g3, .ref g4, .ref g5, .ref g6, .int (zb qq.2.2.2), .int (zb wi), .int (zb mo), .int mv, .int fr, .int sh, .int gr, .int cp, .int ra, .int rl])), (g2, .inl (cI, 48, .inl ow)), (g3, .inl (cI, 48, .inl s_19))] := hD.sub [0, 1, 2] (by decide) rfl
                    refine z_callWi (ws' := [(h0, .inr (4, [.int 0, .int (zb ((m_change qq wi ow s_19).2.1).1), .int (((m_change qq wi ow s_19).2.1).2.1), .int (((m_change qq wi ow s_19).2.1).2.2.1), .ref g1, .ref g2, .ref g3, .ref g4, .ref g5, .ref g6, .int (zb ((m_change qq wi ow s_19).2.1).2.2.2), .int (zb wi), .int (zb mo), .int mv, .int fr, .int sh, .int gr, .int cp, .int ra, .int rl])), (g2, .inl (cI, 48, .inl ((m_change qq wi ow s_19).2.2))), (g3, .inl (cI, 48, .inl s_19)), (g4, .inl (cI, 17, .inl ki)), (g5, .inl (cI, 17, .inl na)), (g6, .inl (cI, 17, .inl ha))]) [0, 1, 2] [3, 4, 5] [(g4, .inl (cI, 17, .inl ki)), (g5, .inl (cI, 17, .inl na)), (g6, .inl (cI, 17, .inl ha))] [h0, g2, g3, g4, g5, g6] (va_runV (As := []) (rest := []) ⟨hx, hb, hml, hown, hts⟩ (c_X4_change l D cI h0 g1 g2 g3 g4 g5 g6 0 qq wi mo mv fr sh gr cp ra rl ow s_19 H.size) (cwV 0 hts gX4_close_X4_change rfl rfl rfl qd_X4_change ⟨Nat.le_of_ble_eq_true rfl, Nat.le_of_ble_eq_true rfl⟩) ⟨z_Pw_blind, va_recv hK hP (ci := 4) (q0 := 0) rfl rfl, fun U hU hW => ⟨rfl, by rw [hU], by rw [hU]; exact hPc, va_K.moved hW.alike hK, hDc.weaken (fun _ _ _ _ => trivial)⟩⟩ rfl rfl hl.1 rfl (lv_room (Nat.le_of_ble_eq_true rfl)) dX4_close_150 ⟨Nat.le_of_ble_eq_true rfl, Nat.le_of_ble_eq_true rfl⟩) hP hD hS hA ⟨rfl, rfl, rfl, rfl, rfl, rfl, rfl⟩ (fun H locs hP hD hS => ?_)
                    generalize hs_22 : m_change qq wi ow s_19 = s_22 at hP hD ⊢
                    refine lv_if_ne (tgt := 158) hx hb dX4_close_153 (by decide) (fun c_23 => ?_) (fun c_23 => ?_)
                    · skip
                      refine lv_iload hx hb dX4_close_158 (lv_at hl 1 rfl) ?_
                      refine lv_if_le (tgt := 171) hx hb dX4_close_160 (by decide) (fun c_24 => ?_) (fun c_24 => ?_)
                      · skip
                        exact absurd c_24 c_12
                      · skip
                        refine lv_aload_n hx hb dX4_close_163 rfl (lv_at hl 3 rfl) ?_
                        refine va_get (D := D) (ci := 4) (v := .ref g4) (C := RX4) (T := TX4) (N := 20) hx hb hts hin4 hown hK hP 0 rfl rfl 7 (by decide) hf27 (fun _ h9 => h9) rfl dX4_close_164 ?_
                        refine lv_iload hx hb dX4_close_167 (lv_at hl 1 rfl) ?_
                        refine lv_iconst (v := 0) hx hb dX4_close_169 (by decide) ?_
                        refine va_iast hx hb hK hP hD hS 3 0 rfl rfl (z_ix rfl (m_perm_17 _ _ _) (by decide)) dX4_close_170 (fun H locs hP hD hS => ?_)
                        rw [z_ic rfl (m_perm_17 _ _ _) (by decide)] at hP hD
                        have hP : va_P D vwCl [(h0, .inr (4, [.int 0, .int (zb (s_22.2.1).1), .int ((s_22.2.1).2.1), .int ((s_22.2.1).2.2.1), .ref g1, .ref g2, .ref g3, .ref g4, .ref g5, .ref g6, .int (zb (s_22.2.1).2.2.2), .int (zb wi), .int (zb mo), .int mv, .int fr, .int sh, .int gr, .int cp, .int ra, .int rl])), (g2, .inl (cI, 48, .inl s_22.2.2)), (g3, .inl (cI, 48, .inl s_19)), (g4, .inl (cI, 17, .inl (upd ki (m_perm ki na (na (m_hand ki ha p0))) 0))), (g5, .inl (cI, 17, .inl na)), (g6, .inl (cI, 17, .inl ha))] H := hP
                        have hD : va_D A [(h0, .inr (4, [.int 0, .int (zb (s_22.2.1).1), .int ((s_22.2.1).2.1), .int ((s_22.2.1).2.2.1), .ref g1, .ref g2, .ref g3, .ref g4, .ref g5, .ref g6, .int (zb (s_22.2.1).2.2.2), .int (zb wi), .int (zb mo), .int mv, .int fr, .int sh, .int gr, .int cp, .int ra, .int rl])), (g2, .inl (cI, 48, .inl s_22.2.2)), (g3, .inl (cI, 48, .inl s_19)), (g4, .inl (cI, 17, .inl (upd ki (m_perm ki na (na (m_hand ki ha p0))) 0))), (g5, .inl (cI, 17, .inl na)), (g6, .inl (cI, 17, .inl ha))] := hD
                        refine lv_aload_n hx hb dX4_close_171 rfl (lv_at hl 3 rfl) ?_
                        refine va_get (D := D) (ci := 4) (v := .ref g4) (C := RX4) (T := TX4) (N := 20) hx hb hts hin4 hown hK hP 0 rfl rfl 7 (by decide) hf27 (fun _ h9 => h9) rfl dX4_close_172 ?_
                        refine lv_iload_n hx hb dX4_close_175 rfl (lv_at hl 2 rfl) ?_
                        refine lv_iconst (v := 2) hx hb dX4_close_176 (by decide) ?_
                        refine va_iast hx hb hK hP hD hS 3 0 rfl rfl (z_ix rfl (m_hand_17 _ _ _) (by decide)) dX4_close_177 (fun H locs hP hD hS => ?_)
                        rw [z_ic rfl (m_hand_17 _ _ _) (by decide)] at hP hD
                        have hP : va_P D vwCl [(h0, .inr (4, [.int 0, .int (zb (s_22.2.1).1), .int ((s_22.2.1).2.1), .int ((s_22.2.1).2.2.1), .ref g1, .ref g2, .ref g3, .ref g4, .ref g5, .ref g6, .int (zb (s_22.2.1).2.2.2), .int (zb wi), .int (zb mo), .int mv, .int fr, .int sh, .int gr, .int cp, .int ra, .int rl])), (g2, .inl (cI, 48, .inl s_22.2.2)), (g3, .inl (cI, 48, .inl s_19)), (g4, .inl (cI, 17, .inl (upd (upd ki (m_perm ki na (na (m_hand ki ha p0))) 0) (m_hand ki ha p0) 2))), (g5, .inl (cI, 17, .inl na)), (g6, .inl (cI, 17, .inl ha))] H := hP
                        have hD : va_D A [(h0, .inr (4, [.int 0, .int (zb (s_22.2.1).1), .int ((s_22.2.1).2.1), .int ((s_22.2.1).2.2.1), .ref g1, .ref g2, .ref g3, .ref g4, .ref g5, .ref g6, .int (zb (s_22.2.1).2.2.2), .int (zb wi), .int (zb mo), .int mv, .int fr, .int sh, .int gr, .int cp, .int ra, .int rl])), (g2, .inl (cI, 48, .inl s_22.2.2)), (g3, .inl (cI, 48, .inl s_19)), (g4, .inl (cI, 17, .inl (upd (upd ki (m_perm ki na (na (m_hand ki ha p0))) 0) (m_hand ki ha p0) 2))), (g5, .inl (cI, 17, .inl na)), (g6, .inl (cI, 17, .inl ha))] := hD
                        refine lv_iload hx hb dX4_close_178 (lv_at hl 0 rfl) ?_
                        have hE : m_close qq wi ow nx ki na ha p0 p1 = (((m_cnt ow (nI (m_hand ki ha p0)) 48) - p1) + (m_cnt ow (nI (m_perm ki na (na (m_hand ki ha p0)))) 48), 0, s_22.2.1, s_22.2.2, s_19, upd (upd ki (m_perm ki na (na (m_hand ki ha p0))) 0) (m_hand ki ha p0) 2) := by subst hs_22 hs_19 hs_11 hs_10; simp only [m_close, if_neg (z_b1f c_1), if_neg c_5, if_neg c_6, if_pos c_8, if_neg c_12, if_pos c_20, if_neg (z_b1f c_23)] <;> rfl
                        have hPz : va_P D vwCl [(h0, .inr (4, [.int ((m_close qq wi ow nx ki na ha p0 p1).2.1), .int (zb ((m_close qq wi ow nx ki na ha p0 p1).2.2.1).1), .int (((m_close qq wi ow nx ki na ha p0 p1).2.2.1).2.1), .int (((m_close qq wi ow nx ki na ha p0 p1).2.2.1).2.2.1), .ref g1, .ref g2, .ref g3, .ref g4, .ref g5, .ref g6, .int (zb ((m_close qq wi ow nx ki na ha p0 p1).2.2.1).2.2.2), .int (zb wi), .int (zb mo), .int mv, .int fr, .int sh, .int gr, .int cp, .int ra, .int rl])), (g2, .inl (cI, 48, .inl ((m_close qq wi ow nx ki na ha p0 p1).2.2.2.1))), (g3, .inl (cI, 48, .inl ((m_close qq wi ow nx ki na ha p0 p1).2.2.2.2.1))), (g4, .inl (cI, 17, .inl ((m_close qq wi ow nx ki na ha p0 p1).2.2.2.2.2))), (g5, .inl (cI, 17, .inl na)), (g6, .inl (cI, 17, .inl ha))] H := by rw [hE]; exact hP
                        have hRr : ((m_cnt ow (nI (m_hand ki ha p0)) 48) - p1) + (m_cnt ow (nI (m_perm ki na (na (m_hand ki ha p0)))) 48) = (m_close qq wi ow nx ki na ha p0 p1).1 := by first | (rw [hE]; done) | (rw [hE]; rfl)
                        exact W.iret (v := ((m_cnt ow (nI (m_hand ki ha p0)) 48) - p1) + (m_cnt ow (nI (m_perm ki na (na (m_hand ki ha p0)))) 48)) hx hb hr (fun t ht hW => ⟨⟨z_ret hRr, by rw [ht]; exact hPz⟩, hS.F ht⟩) hS.2.2 dX4_close_180
                    · skip
                      refine lv_iconst (v := -1) hx hb dX4_close_156 (by decide) ?_
                      have hE : m_close qq wi ow nx ki na ha p0 p1 = (-1, 0, s_22.2.1, s_22.2.2, s_19, ki) := by subst hs_22 hs_19 hs_11 hs_10; simp only [m_close, if_neg (z_b1f c_1), if_neg c_5, if_neg c_6, if_pos c_8, if_neg c_12, if_pos c_20, if_pos (z_b0 c_23)] <;> rfl
                      have hPz : va_P D vwCl [(h0, .inr (4, [.int ((m_close qq wi ow nx ki na ha p0 p1).2.1), .int (zb ((m_close qq wi ow nx ki na ha p0 p1).2.2.1).1), .int (((m_close qq wi ow nx ki na ha p0 p1).2.2.1).2.1), .int (((m_close qq wi ow nx ki na ha p0 p1).2.2.1).2.2.1), .ref g1, .ref g2, .ref g3, .ref g4, .ref g5, .ref g6, .int (zb ((m_close qq wi ow nx ki na ha p0 p1).2.2.1).2.2.2), .int (zb wi), .int (zb mo), .int mv, .int fr, .int sh, .int gr, .int cp, .int ra, .int rl])), (g2, .inl (cI, 48, .inl ((m_close qq wi ow nx ki na ha p0 p1).2.2.2.1))), (g3, .inl (cI, 48, .inl ((m_close qq wi ow nx ki na ha p0 p1).2.2.2.2.1))), (g4, .inl (cI, 17, .inl ((m_close qq wi ow nx ki na ha p0 p1).2.2.2.2.2))), (g5, .inl (cI, 17, .inl na)), (g6, .inl (cI, 17, .inl ha))] H := by rw [hE]; exact hP
                      have hRr : -1 = (m_close qq wi ow nx ki na ha p0 p1).1 := by first | (rw [hE]; done) | (rw [hE]; rfl)
                      exact W.iret (v := -1) hx hb hr (fun t ht hW => ⟨⟨z_ret hRr, by rw [ht]; exact hPz⟩, hS.F ht⟩) hS.2.2 dX4_close_157
                  · skip
                    exact absurd (by decide) c_21
                · skip
                  refine lv_iconst (v := 4) hx hb dX4_close_132 (by decide) ?_
                  refine lv_goto (tgt := 137) hx hb dX4_close_133 (by decide) ?_
                  refine va_put (D := D) (ci := 4) (v := .int 4) (ty := .int) (C := RX4) (T := TX4) (N := 20) hx hb hts hin4 tyX4 tyX4_ok nmX4 hown hK hP hD hS 0 rfl rfl 0 (by decide) hf36 (fun _ h9 => h9) rfl (by decide +kernel) rfl rfl (Nat.le_of_ble_eq_true rfl) dX4_close_137 (fun H locs hP hD hS => ?_)
                  have hP : va_P D vwCl [(h0, .inr (4, [.int 4, .int (zb qq.1), .int qq.2.1, .int qq.2.2.1, .ref g1, .ref g2, .ref g3, .ref g4, .ref g5, .ref g6, .int (zb qq.2.2.2), .int (zb wi), .int (zb mo), .int mv, .int fr, .int sh, .int gr, .int cp, .int ra, .int rl])), (g2, .inl (cI, 48, .inl ow)), (g3, .inl (cI, 48, .inl s_19)), (g4, .inl (cI, 17, .inl ki)), (g5, .inl (cI, 17, .inl na)), (g6, .inl (cI, 17, .inl ha))] H := hP
                  have hD : va_D A [(h0, .inr (4, [.int 4, .int (zb qq.1), .int qq.2.1, .int qq.2.2.1, .ref g1, .ref g2, .ref g3, .ref g4, .ref g5, .ref g6, .int (zb qq.2.2.2), .int (zb wi), .int (zb mo), .int mv, .int fr, .int sh, .int gr, .int cp, .int ra, .int rl])), (g2, .inl (cI, 48, .inl ow)), (g3, .inl (cI, 48, .inl s_19)), (g4, .inl (cI, 17, .inl ki)), (g5, .inl (cI, 17, .inl na)), (g6, .inl (cI, 17, .inl ha))] := hD
                  refine lv_aload_n hx hb dX4_close_140 rfl (lv_at hl 3 rfl) ?_
                  refine va_get (D := D) (ci := 4) (v := .int 4) (C := RX4) (T := TX4) (N := 20) hx hb hts hin4 hown hK hP 0 rfl rfl 0 (by decide) hf36 (fun _ h9 => h9) rfl dX4_close_141 ?_
                  refine lv_if_le (tgt := 149) hx hb dX4_close_144 (by decide) (fun c_25 => ?_) (fun c_25 => ?_)
                  · skip
                    exact absurd c_25 (by decide)
                  · skip
                    refine lv_iconst (v := 0) hx hb dX4_close_147 (by decide) ?_
                    have hE : m_close qq wi ow nx ki na ha p0 p1 = (0, 4, qq, ow, s_19, ki) := by subst hs_19 hs_11 hs_10; simp only [m_close, if_neg (z_b1f c_1), if_neg c_5, if_neg c_6, if_pos c_8, if_neg c_12, if_neg c_20] <;> rfl
                    have hPz : va_P D vwCl [(h0, .inr (4, [.int ((m_close qq wi ow nx ki na ha p0 p1).2.1), .int (zb ((m_close qq wi ow nx ki na ha p0 p1).2.2.1).1), .int (((m_close qq wi ow nx ki na ha p0 p1).2.2.1).2.1), .int (((m_close qq wi ow nx ki na ha p0 p1).2.2.1).2.2.1), .ref g1, .ref g2, .ref g3, .ref g4, .ref g5, .ref g6, .int (zb ((m_close qq wi ow nx ki na ha p0 p1).2.2.1).2.2.2), .int (zb wi), .int (zb mo), .int mv, .int fr, .int sh, .int gr, .int cp, .int ra, .int rl])), (g2, .inl (cI, 48, .inl ((m_close qq wi ow nx ki na ha p0 p1).2.2.2.1))), (g3, .inl (cI, 48, .inl ((m_close qq wi ow nx ki na ha p0 p1).2.2.2.2.1))), (g4, .inl (cI, 17, .inl ((m_close qq wi ow nx ki na ha p0 p1).2.2.2.2.2))), (g5, .inl (cI, 17, .inl na)), (g6, .inl (cI, 17, .inl ha))] H := by rw [hE]; exact hP
                    have hRr : 0 = (m_close qq wi ow nx ki na ha p0 p1).1 := by first | (rw [hE]; done) | (rw [hE]; rfl)
                    exact W.iret (v := 0) hx hb hr (fun t ht hW => ⟨⟨z_ret hRr, by rw [ht]; exact hPz⟩, hS.F ht⟩) hS.2.2 dX4_close_148
            · skip
              exact absurd (by decide) c_9
          · skip
            refine lv_iconst (v := 3) hx hb dX4_close_51 (by decide) ?_
            refine lv_goto (tgt := 56) hx hb dX4_close_52 (by decide) ?_
            refine va_put (D := D) (ci := 4) (v := .int 3) (ty := .int) (C := RX4) (T := TX4) (N := 20) hx hb hts hin4 tyX4 tyX4_ok nmX4 hown hK hP hD hS 0 rfl rfl 0 (by decide) hf36 (fun _ h9 => h9) rfl (by decide +kernel) rfl rfl (Nat.le_of_ble_eq_true rfl) dX4_close_56 (fun H locs hP hD hS => ?_)
            have hP : va_P D vwCl [(h0, .inr (4, [.int 3, .int (zb qq.1), .int qq.2.1, .int qq.2.2.1, .ref g1, .ref g2, .ref g3, .ref g4, .ref g5, .ref g6, .int (zb qq.2.2.2), .int (zb wi), .int (zb mo), .int mv, .int fr, .int sh, .int gr, .int cp, .int ra, .int rl])), (g2, .inl (cI, 48, .inl ow)), (g3, .inl (cI, 48, .inl nx)), (g4, .inl (cI, 17, .inl ki)), (g5, .inl (cI, 17, .inl na)), (g6, .inl (cI, 17, .inl ha))] H := hP
            have hD : va_D A [(h0, .inr (4, [.int 3, .int (zb qq.1), .int qq.2.1, .int qq.2.2.1, .ref g1, .ref g2, .ref g3, .ref g4, .ref g5, .ref g6, .int (zb qq.2.2.2), .int (zb wi), .int (zb mo), .int mv, .int fr, .int sh, .int gr, .int cp, .int ra, .int rl])), (g2, .inl (cI, 48, .inl ow)), (g3, .inl (cI, 48, .inl nx)), (g4, .inl (cI, 17, .inl ki)), (g5, .inl (cI, 17, .inl na)), (g6, .inl (cI, 17, .inl ha))] := hD
            refine lv_aload_n hx hb dX4_close_59 rfl (lv_at hl 1 rfl) ?_
            refine va_get (D := D) (ci := 4) (v := .int 3) (C := RX4) (T := TX4) (N := 20) hx hb hts hin4 hown hK hP 0 rfl rfl 0 (by decide) hf36 (fun _ h9 => h9) rfl dX4_close_60 ?_
            refine lv_if_le (tgt := 68) hx hb dX4_close_63 (by decide) (fun c_26 => ?_) (fun c_26 => ?_)
            · skip
              exact absurd c_26 (by decide)
            · skip
              refine lv_iconst (v := 0) hx hb dX4_close_66 (by decide) ?_
              have hE : m_close qq wi ow nx ki na ha p0 p1 = (0, 3, qq, ow, nx, ki) := by simp only [m_close, if_neg (z_b1f c_1), if_neg c_5, if_neg c_6, if_neg c_8] <;> rfl
              have hPz : va_P D vwCl [(h0, .inr (4, [.int ((m_close qq wi ow nx ki na ha p0 p1).2.1), .int (zb ((m_close qq wi ow nx ki na ha p0 p1).2.2.1).1), .int (((m_close qq wi ow nx ki na ha p0 p1).2.2.1).2.1), .int (((m_close qq wi ow nx ki na ha p0 p1).2.2.1).2.2.1), .ref g1, .ref g2, .ref g3, .ref g4, .ref g5, .ref g6, .int (zb ((m_close qq wi ow nx ki na ha p0 p1).2.2.1).2.2.2), .int (zb wi), .int (zb mo), .int mv, .int fr, .int sh, .int gr, .int cp, .int ra, .int rl])), (g2, .inl (cI, 48, .inl ((m_close qq wi ow nx ki na ha p0 p1).2.2.2.1))), (g3, .inl (cI, 48, .inl ((m_close qq wi ow nx ki na ha p0 p1).2.2.2.2.1))), (g4, .inl (cI, 17, .inl ((m_close qq wi ow nx ki na ha p0 p1).2.2.2.2.2))), (g5, .inl (cI, 17, .inl na)), (g6, .inl (cI, 17, .inl ha))] H := by rw [hE]; exact hP
              have hRr : 0 = (m_close qq wi ow nx ki na ha p0 p1).1 := by first | (rw [hE]; done) | (rw [hE]; rfl)
              exact W.iret (v := 0) hx hb hr (fun t ht hW => ⟨⟨z_ret hRr, by rw [ht]; exact hPz⟩, hS.F ht⟩) hS.2.2 dX4_close_67
      · skip
        refine lv_iconst (v := 2) hx hb dX4_close_33 (by decide) ?_
        refine lv_goto (tgt := 56) hx hb dX4_close_34 (by decide) ?_
        refine va_put (D := D) (ci := 4) (v := .int 2) (ty := .int) (C := RX4) (T := TX4) (N := 20) hx hb hts hin4 tyX4 tyX4_ok nmX4 hown hK hP hD hS 0 rfl rfl 0 (by decide) hf36 (fun _ h9 => h9) rfl (by decide +kernel) rfl rfl (Nat.le_of_ble_eq_true rfl) dX4_close_56 (fun H locs hP hD hS => ?_)
        have hP : va_P D vwCl [(h0, .inr (4, [.int 2, .int (zb qq.1), .int qq.2.1, .int qq.2.2.1, .ref g1, .ref g2, .ref g3, .ref g4, .ref g5, .ref g6, .int (zb qq.2.2.2), .int (zb wi), .int (zb mo), .int mv, .int fr, .int sh, .int gr, .int cp, .int ra, .int rl])), (g2, .inl (cI, 48, .inl ow)), (g3, .inl (cI, 48, .inl nx)), (g4, .inl (cI, 17, .inl ki)), (g5, .inl (cI, 17, .inl na)), (g6, .inl (cI, 17, .inl ha))] H := hP
        have hD : va_D A [(h0, .inr (4, [.int 2, .int (zb qq.1), .int qq.2.1, .int qq.2.2.1, .ref g1, .ref g2, .ref g3, .ref g4, .ref g5, .ref g6, .int (zb qq.2.2.2), .int (zb wi), .int (zb mo), .int mv, .int fr, .int sh, .int gr, .int cp, .int ra, .int rl])), (g2, .inl (cI, 48, .inl ow)), (g3, .inl (cI, 48, .inl nx)), (g4, .inl (cI, 17, .inl ki)), (g5, .inl (cI, 17, .inl na)), (g6, .inl (cI, 17, .inl ha))] := hD
        refine lv_aload_n hx hb dX4_close_59 rfl (lv_at hl 1 rfl) ?_
        refine va_get (D := D) (ci := 4) (v := .int 2) (C := RX4) (T := TX4) (N := 20) hx hb hts hin4 hown hK hP 0 rfl rfl 0 (by decide) hf36 (fun _ h9 => h9) rfl dX4_close_60 ?_
        refine lv_if_le (tgt := 68) hx hb dX4_close_63 (by decide) (fun c_27 => ?_) (fun c_27 => ?_)
        · skip
          exact absurd c_27 (by decide)
        · skip
          refine lv_iconst (v := 0) hx hb dX4_close_66 (by decide) ?_
          have hE : m_close qq wi ow nx ki na ha p0 p1 = (0, 2, qq, ow, nx, ki) := by simp only [m_close, if_neg (z_b1f c_1), if_pos c_5] <;> rfl
          have hPz : va_P D vwCl [(h0, .inr (4, [.int ((m_close qq wi ow nx ki na ha p0 p1).2.1), .int (zb ((m_close qq wi ow nx ki na ha p0 p1).2.2.1).1), .int (((m_close qq wi ow nx ki na ha p0 p1).2.2.1).2.1), .int (((m_close qq wi ow nx ki na ha p0 p1).2.2.1).2.2.1), .ref g1, .ref g2, .ref g3, .ref g4, .ref g5, .ref g6, .int (zb ((m_close qq wi ow nx ki na ha p0 p1).2.2.1).2.2.2), .int (zb wi), .int (zb mo), .int mv, .int fr, .int sh, .int gr, .int cp, .int ra, .int rl])), (g2, .inl (cI, 48, .inl ((m_close qq wi ow nx ki na ha p0 p1).2.2.2.1))), (g3, .inl (cI, 48, .inl ((m_close qq wi ow nx ki na ha p0 p1).2.2.2.2.1))), (g4, .inl (cI, 17, .inl ((m_close qq wi ow nx ki na ha p0 p1).2.2.2.2.2))), (g5, .inl (cI, 17, .inl na)), (g6, .inl (cI, 17, .inl ha))] H := by rw [hE]; exact hP
          have hRr : 0 = (m_close qq wi ow nx ki na ha p0 p1).1 := by first | (rw [hE]; done) | (rw [hE]; rfl)
          exact W.iret (v := 0) hx hb hr (fun t ht hW => ⟨⟨z_ret hRr, by rw [ht]; exact hPz⟩, hS.F ht⟩) hS.2.2 dX4_close_67
    · skip
      exact absurd c_4 c_1
theorem qd_X4_writes : yX4_writes.cls = RX4 ∧ yX4_writes.cls ≠ "java/lang/invoke/MethodHandle" ∧ yX4_writes.cls ≠ "java/lang/invoke/VarHandle" ∧ (parseMethodDescriptor yX4_writes.desc).map (fun d => d.parameters.length) = some 0 := by decide +kernel
set_option maxHeartbeats 400000 in
set_option maxRecDepth 100000 in
/-- writes -/
theorem c_X4_writes (l : Launch) (D : va_G) (cI : ClassId) (h0 : Nat) (g1 : Nat) (g2 : Nat) (g3 : Nat) (g4 : Nat) (g5 : Nat) (g6 : Nat) (code : Int32) (qq : zQ) (wi : Bool) (mo : Bool) (mv : Int32) (fr : Int32) (sh : Int32) (gr : Int32) (cp : Int32) (ra : Int32) (rl : Int32) (sz : Nat) : Met l yX4_writes wsX4_writes ({ frames := 0, cells := 0, slots := 0, locals := 0 }) (z_Pw D cI [.ref h0] [(h0, .inr (4, [.int code, .int (zb qq.1), .int qq.2.1, .int qq.2.2.1, .ref g1, .ref g2, .ref g3, .ref g4, .ref g5, .ref g6, .int (zb qq.2.2.2), .int (zb wi), .int (zb mo), .int mv, .int fr, .int sh, .int gr, .int cp, .int ra, .int rl]))] sz) (z_Wo D (some (.int qq.2.2.1)) [(h0, .inr (4, [.int 0, .int (zb qq.1), .int qq.2.1, .int qq.2.2.1, .ref g1, .ref g2, .ref g3, .ref g4, .ref g5, .ref g6, .int (zb qq.2.2.2), .int (zb wi), .int (zb mo), .int mv, .int fr, .int sh, .int gr, .int cp, .int ra, .int rl]))] (va_A [(h0, .inr (4, [.int code, .int (zb qq.1), .int qq.2.1, .int qq.2.2.1, .ref g1, .ref g2, .ref g3, .ref g4, .ref g5, .ref g6, .int (zb qq.2.2.2), .int (zb wi), .int (zb mo), .int mv, .int fr, .int sh, .int gr, .int cp, .int ra, .int rl]))] sz)) 0 0 (va_A [(h0, .inr (4, [.int code, .int (zb qq.1), .int qq.2.1, .int qq.2.2.1, .ref g1, .ref g2, .ref g3, .ref g4, .ref g5, .ref g6, .int (zb qq.2.2.2), .int (zb wi), .int (zb mo), .int mv, .int fr, .int sh, .int gr, .int cp, .int ra, .int rl]))] sz) := by
  refine Met.ofW (cc := cX4_writes) (maxL := 1) (ret := (some .int)) (by decide) rfl ?_
  intro p e s m args below meth c s₁ B hml hv
  obtain ⟨rfl, hsz, hP, hK, hD0⟩ := hv
  have hx := B.exec
  have hb := B.bytes
  have hr := B.returns
  have hts := atoms_spec (ws := wsX4_writes) B.pre
  have hown : s.vm.findClass RX4 = some m.cls := findClass_of_methodNamed B.named
  have hlocks := B.notSynchronized
  subst hsz
  have hD := hD0.self (sz := s.heap.size)
  generalize hAe : va_A [(h0, .inr (4, [.int code, .int (zb qq.1), .int qq.2.1, .int qq.2.2.1, .ref g1, .ref g2, .ref g3, .ref g4, .ref g5, .ref g6, .int (zb qq.2.2.2), .int (zb wi), .int (zb mo), .int mv, .int fr, .int sh, .int gr, .int cp, .int ra, .int rl]))] s.heap.size = A at hD ⊢
  have hA : ∀ q : Nat, s.heap.size ≤ q → A q := fun q h => by rw [← hAe]; exact Or.inr h
  have hS : va_S A s.heap s.heap [] := va_S.rf
  have hP : va_P D vwCl [(h0, .inr (4, [.int code, .int (zb qq.1), .int qq.2.1, .int qq.2.2.1, .ref g1, .ref g2, .ref g3, .ref g4, .ref g5, .ref g6, .int (zb qq.2.2.2), .int (zb wi), .int (zb mo), .int mv, .int fr, .int sh, .int gr, .int cp, .int ra, .int rl]))] s.heap := hP
  have hl := lv_entry ([.ref h0]) (n := 1) (Nat.le_of_ble_eq_true rfl)
  rw [lg_entry_eq]
  generalize (lg_sl ([.ref h0]) ++ List.replicate (1 - (lg_sl ([.ref h0])).length) Slot.unset).toArray = ls at hl ⊢
  have hl : lv_has ls 1 [(0, .ref h0)] := hl
  refine z_start hP hS (fun H locs hP hS => ?_)
  have hin4 : ∀ w ∈ wsX40, w ∈ wsX4_writes := by decide +kernel
  have hf36 := hts (.fieldLink RX4 36 "SqueezedVolumeModel" "code" "I") (by decide +kernel)
  have hf39 := hts (.fieldLink RX4 39 "SqueezedVolumeModel" "writes" "I") (by decide +kernel)
  refine lv_aload_n hx hb dX4_writes_0 rfl (lv_at hl 0 rfl) ?_
  refine lv_iconst (v := 0) hx hb dX4_writes_1 (by decide) ?_
  refine va_put (D := D) (ci := 4) (v := .int 0) (ty := .int) (C := RX4) (T := TX4) (N := 20) hx hb hts hin4 tyX4 tyX4_ok nmX4 hown hK hP hD hS 0 rfl rfl 0 (by decide) hf36 (fun _ h9 => h9) rfl (by decide +kernel) rfl rfl (Nat.le_of_ble_eq_true rfl) dX4_writes_2 (fun H locs hP hD hS => ?_)
  have hP : va_P D vwCl [(h0, .inr (4, [.int 0, .int (zb qq.1), .int qq.2.1, .int qq.2.2.1, .ref g1, .ref g2, .ref g3, .ref g4, .ref g5, .ref g6, .int (zb qq.2.2.2), .int (zb wi), .int (zb mo), .int mv, .int fr, .int sh, .int gr, .int cp, .int ra, .int rl]))] H := hP
  have hD : va_D A [(h0, .inr (4, [.int 0, .int (zb qq.1), .int qq.2.1, .int qq.2.2.1, .ref g1, .ref g2, .ref g3, .ref g4, .ref g5, .ref g6, .int (zb qq.2.2.2), .int (zb wi), .int (zb mo), .int mv, .int fr, .int sh, .int gr, .int cp, .int ra, .int rl]))] := hD
  refine lv_aload_n hx hb dX4_writes_5 rfl (lv_at hl 0 rfl) ?_
  refine va_get (D := D) (ci := 4) (v := .int qq.2.2.1) (C := RX4) (T := TX4) (N := 20) hx hb hts hin4 hown hK hP 0 rfl rfl 3 (by decide) hf39 (fun _ h9 => h9) rfl dX4_writes_6 ?_
  have hPz : va_P D vwCl [(h0, .inr (4, [.int 0, .int (zb qq.1), .int qq.2.1, .int qq.2.2.1, .ref g1, .ref g2, .ref g3, .ref g4, .ref g5, .ref g6, .int (zb qq.2.2.2), .int (zb wi), .int (zb mo), .int mv, .int fr, .int sh, .int gr, .int cp, .int ra, .int rl]))] H := hP
  exact W.iret (v := qq.2.2.1) hx hb hr (fun t ht hW => ⟨⟨z_ret rfl, by rw [ht]; exact hPz⟩, hS.F ht⟩) hS.2.2 dX4_writes_9
theorem qd_X4_isOn : yX4_isOn.cls = RX4 ∧ yX4_isOn.cls ≠ "java/lang/invoke/MethodHandle" ∧ yX4_isOn.cls ≠ "java/lang/invoke/VarHandle" ∧ (parseMethodDescriptor yX4_isOn.desc).map (fun d => d.parameters.length) = some 0 := by decide +kernel
set_option maxHeartbeats 400000 in
set_option maxRecDepth 100000 in
/-- isOn -/
theorem c_X4_isOn (l : Launch) (D : va_G) (cI : ClassId) (h0 : Nat) (g1 : Nat) (g2 : Nat) (g3 : Nat) (g4 : Nat) (g5 : Nat) (g6 : Nat) (code : Int32) (qq : zQ) (wi : Bool) (mo : Bool) (mv : Int32) (fr : Int32) (sh : Int32) (gr : Int32) (cp : Int32) (ra : Int32) (rl : Int32) (sz : Nat) : Met l yX4_isOn wsX4_isOn ({ frames := 0, cells := 0, slots := 0, locals := 0 }) (z_Pw D cI [.ref h0] [(h0, .inr (4, [.int code, .int (zb qq.1), .int qq.2.1, .int qq.2.2.1, .ref g1, .ref g2, .ref g3, .ref g4, .ref g5, .ref g6, .int (zb qq.2.2.2), .int (zb wi), .int (zb mo), .int mv, .int fr, .int sh, .int gr, .int cp, .int ra, .int rl]))] sz) (z_Wo D (some (.int (zb qq.1))) [(h0, .inr (4, [.int 0, .int (zb qq.1), .int qq.2.1, .int qq.2.2.1, .ref g1, .ref g2, .ref g3, .ref g4, .ref g5, .ref g6, .int (zb qq.2.2.2), .int (zb wi), .int (zb mo), .int mv, .int fr, .int sh, .int gr, .int cp, .int ra, .int rl]))] (va_A [(h0, .inr (4, [.int code, .int (zb qq.1), .int qq.2.1, .int qq.2.2.1, .ref g1, .ref g2, .ref g3, .ref g4, .ref g5, .ref g6, .int (zb qq.2.2.2), .int (zb wi), .int (zb mo), .int mv, .int fr, .int sh, .int gr, .int cp, .int ra, .int rl]))] sz)) 0 0 (va_A [(h0, .inr (4, [.int code, .int (zb qq.1), .int qq.2.1, .int qq.2.2.1, .ref g1, .ref g2, .ref g3, .ref g4, .ref g5, .ref g6, .int (zb qq.2.2.2), .int (zb wi), .int (zb mo), .int mv, .int fr, .int sh, .int gr, .int cp, .int ra, .int rl]))] sz) := by
  refine Met.ofW (cc := cX4_isOn) (maxL := 1) (ret := (some .boolean)) (by decide) rfl ?_
  intro p e s m args below meth c s₁ B hml hv
  obtain ⟨rfl, hsz, hP, hK, hD0⟩ := hv
  have hx := B.exec
  have hb := B.bytes
  have hr := B.returns
  have hts := atoms_spec (ws := wsX4_isOn) B.pre
  have hown : s.vm.findClass RX4 = some m.cls := findClass_of_methodNamed B.named
  have hlocks := B.notSynchronized
  subst hsz
  have hD := hD0.self (sz := s.heap.size)
  generalize hAe : va_A [(h0, .inr (4, [.int code, .int (zb qq.1), .int qq.2.1, .int qq.2.2.1, .ref g1, .ref g2, .ref g3, .ref g4, .ref g5, .ref g6, .int (zb qq.2.2.2), .int (zb wi), .int (zb mo), .int mv, .int fr, .int sh, .int gr, .int cp, .int ra, .int rl]))] s.heap.size = A at hD ⊢
  have hA : ∀ q : Nat, s.heap.size ≤ q → A q := fun q h => by rw [← hAe]; exact Or.inr h
  have hS : va_S A s.heap s.heap [] := va_S.rf
  have hP : va_P D vwCl [(h0, .inr (4, [.int code, .int (zb qq.1), .int qq.2.1, .int qq.2.2.1, .ref g1, .ref g2, .ref g3, .ref g4, .ref g5, .ref g6, .int (zb qq.2.2.2), .int (zb wi), .int (zb mo), .int mv, .int fr, .int sh, .int gr, .int cp, .int ra, .int rl]))] s.heap := hP
  have hl := lv_entry ([.ref h0]) (n := 1) (Nat.le_of_ble_eq_true rfl)
  rw [lg_entry_eq]
  generalize (lg_sl ([.ref h0]) ++ List.replicate (1 - (lg_sl ([.ref h0])).length) Slot.unset).toArray = ls at hl ⊢
  have hl : lv_has ls 1 [(0, .ref h0)] := hl
  refine z_start hP hS (fun H locs hP hS => ?_)
  have hin4 : ∀ w ∈ wsX40, w ∈ wsX4_isOn := by decide +kernel
  have hf36 := hts (.fieldLink RX4 36 "SqueezedVolumeModel" "code" "I") (by decide +kernel)
  have hf7 := hts (.fieldLink RX4 7 "SqueezedVolumeModel" "on" "Z") (by decide +kernel)
  refine lv_aload_n hx hb dX4_isOn_0 rfl (lv_at hl 0 rfl) ?_
  refine lv_iconst (v := 0) hx hb dX4_isOn_1 (by decide) ?_
  refine va_put (D := D) (ci := 4) (v := .int 0) (ty := .int) (C := RX4) (T := TX4) (N := 20) hx hb hts hin4 tyX4 tyX4_ok nmX4 hown hK hP hD hS 0 rfl rfl 0 (by decide) hf36 (fun _ h9 => h9) rfl (by decide +kernel) rfl rfl (Nat.le_of_ble_eq_true rfl) dX4_isOn_2 (fun H locs hP hD hS => ?_)
  have hP : va_P D vwCl [(h0, .inr (4, [.int 0, .int (zb qq.1), .int qq.2.1, .int qq.2.2.1, .ref g1, .ref g2, .ref g3, .ref g4, .ref g5, .ref g6, .int (zb qq.2.2.2), .int (zb wi), .int (zb mo), .int mv, .int fr, .int sh, .int gr, .int cp, .int ra, .int rl]))] H := hP
  have hD : va_D A [(h0, .inr (4, [.int 0, .int (zb qq.1), .int qq.2.1, .int qq.2.2.1, .ref g1, .ref g2, .ref g3, .ref g4, .ref g5, .ref g6, .int (zb qq.2.2.2), .int (zb wi), .int (zb mo), .int mv, .int fr, .int sh, .int gr, .int cp, .int ra, .int rl]))] := hD
  refine lv_aload_n hx hb dX4_isOn_5 rfl (lv_at hl 0 rfl) ?_
  refine va_get (D := D) (ci := 4) (v := .int (zb qq.1)) (C := RX4) (T := TX4) (N := 20) hx hb hts hin4 hown hK hP 0 rfl rfl 1 (by decide) hf7 (fun _ h9 => h9) rfl dX4_isOn_6 ?_
  have hPz : va_P D vwCl [(h0, .inr (4, [.int 0, .int (zb qq.1), .int qq.2.1, .int qq.2.2.1, .ref g1, .ref g2, .ref g3, .ref g4, .ref g5, .ref g6, .int (zb qq.2.2.2), .int (zb wi), .int (zb mo), .int mv, .int fr, .int sh, .int gr, .int cp, .int ra, .int rl]))] H := hP
  exact W.zret (v := zb qq.1) (ty := .boolean) hx hb hr (z_nb _) (fun t ht hW => ⟨⟨z_ret rfl, by rw [ht]; exact hPz⟩, hS.F ht⟩) hS.2.2 dX4_isOn_9
theorem qd_X4_cutAfter : yX4_cutAfter.cls = RX4 ∧ yX4_cutAfter.cls ≠ "java/lang/invoke/MethodHandle" ∧ yX4_cutAfter.cls ≠ "java/lang/invoke/VarHandle" ∧ (parseMethodDescriptor yX4_cutAfter.desc).map (fun d => d.parameters.length) = some 1 := by decide +kernel
set_option maxHeartbeats 400000 in
set_option maxRecDepth 100000 in
/-- cutAfter -/
theorem c_X4_cutAfter (l : Launch) (D : va_G) (cI : ClassId) (h0 : Nat) (g1 : Nat) (g2 : Nat) (g3 : Nat) (g4 : Nat) (g5 : Nat) (g6 : Nat) (code : Int32) (qq : zQ) (wi : Bool) (mo : Bool) (mv : Int32) (fr : Int32) (sh : Int32) (gr : Int32) (cp : Int32) (ra : Int32) (rl : Int32) (p0 : Int32) (sz : Nat) : Met l yX4_cutAfter wsX4_cutAfter ({ frames := 0, cells := 0, slots := 0, locals := 0 }) (z_Pw D cI [.ref h0, .int p0] [(h0, .inr (4, [.int code, .int (zb qq.1), .int qq.2.1, .int qq.2.2.1, .ref g1, .ref g2, .ref g3, .ref g4, .ref g5, .ref g6, .int (zb qq.2.2.2), .int (zb wi), .int (zb mo), .int mv, .int fr, .int sh, .int gr, .int cp, .int ra, .int rl]))] sz) (z_Wo D none [(h0, .inr (4, [.int ((m_cut qq p0).1), .int (zb ((m_cut qq p0).2).1), .int (((m_cut qq p0).2).2.1), .int (((m_cut qq p0).2).2.2.1), .ref g1, .ref g2, .ref g3, .ref g4, .ref g5, .ref g6, .int (zb ((m_cut qq p0).2).2.2.2), .int (zb wi), .int (zb mo), .int mv, .int fr, .int sh, .int gr, .int cp, .int ra, .int rl]))] (va_A [(h0, .inr (4, [.int code, .int (zb qq.1), .int qq.2.1, .int qq.2.2.1, .ref g1, .ref g2, .ref g3, .ref g4, .ref g5, .ref g6, .int (zb qq.2.2.2), .int (zb wi), .int (zb mo), .int mv, .int fr, .int sh, .int gr, .int cp, .int ra, .int rl]))] sz)) 0 0 (va_A [(h0, .inr (4, [.int code, .int (zb qq.1), .int qq.2.1, .int qq.2.2.1, .ref g1, .ref g2, .ref g3, .ref g4, .ref g5, .ref g6, .int (zb qq.2.2.2), .int (zb wi), .int (zb mo), .int mv, .int fr, .int sh, .int gr, .int cp, .int ra, .int rl]))] sz) := by
  refine Met.ofW (cc := cX4_cutAfter) (maxL := 2) (ret := none) (by decide) rfl ?_
  intro p e s m args below meth c s₁ B hml hv
  obtain ⟨rfl, hsz, hP, hK, hD0⟩ := hv
  have hx := B.exec
  have hb := B.bytes
  have hr := B.returns
  have hts := atoms_spec (ws := wsX4_cutAfter) B.pre
  have hown : s.vm.findClass RX4 = some m.cls := findClass_of_methodNamed B.named
  have hlocks := B.notSynchronized
  subst hsz
  have hD := hD0.self (sz := s.heap.size)
  generalize hAe : va_A [(h0, .inr (4, [.int code, .int (zb qq.1), .int qq.2.1, .int qq.2.2.1, .ref g1, .ref g2, .ref g3, .ref g4, .ref g5, .ref g6, .int (zb qq.2.2.2), .int (zb wi), .int (zb mo), .int mv, .int fr, .int sh, .int gr, .int cp, .int ra, .int rl]))] s.heap.size = A at hD ⊢
  have hA : ∀ q : Nat, s.heap.size ≤ q → A q := fun q h => by rw [← hAe]; exact Or.inr h
  have hS : va_S A s.heap s.heap [] := va_S.rf
  have hP : va_P D vwCl [(h0, .inr (4, [.int code, .int (zb qq.1), .int qq.2.1, .int qq.2.2.1, .ref g1, .ref g2, .ref g3, .ref g4, .ref g5, .ref g6, .int (zb qq.2.2.2), .int (zb wi), .int (zb mo), .int mv, .int fr, .int sh, .int gr, .int cp, .int ra, .int rl]))] s.heap := hP
  have hl := lv_entry ([.ref h0, .int p0]) (n := 2) (Nat.le_of_ble_eq_true rfl)
  rw [lg_entry_eq]
  generalize (lg_sl ([.ref h0, .int p0]) ++ List.replicate (2 - (lg_sl ([.ref h0, .int p0])).length) Slot.unset).toArray = ls at hl ⊢
  have hl : lv_has ls 2 [(0, .ref h0), (1, .int p0)] := hl
  refine z_start hP hS (fun H locs hP hS => ?_)
  have hin4 : ∀ w ∈ wsX40, w ∈ wsX4_cutAfter := by decide +kernel
  have hf7 := hts (.fieldLink RX4 7 "SqueezedVolumeModel" "on" "Z") (by decide +kernel)
  have hf36 := hts (.fieldLink RX4 36 "SqueezedVolumeModel" "code" "I") (by decide +kernel)
  have hf13 := hts (.fieldLink RX4 13 "SqueezedVolumeModel" "left" "I") (by decide +kernel)
  refine lv_aload_n hx hb dX4_cutAfter_0 rfl (lv_at hl 0 rfl) ?_
  refine lv_aload_n hx hb dX4_cutAfter_1 rfl (lv_at hl 0 rfl) ?_
  refine va_get (D := D) (ci := 4) (v := .int (zb qq.1)) (C := RX4) (T := TX4) (N := 20) hx hb hts hin4 hown hK hP 0 rfl rfl 1 (by decide) hf7 (fun _ h9 => h9) rfl dX4_cutAfter_2 ?_
  refine lv_if_ne (tgt := 12) hx hb dX4_cutAfter_5 (by decide) (fun c_1 => ?_) (fun c_1 => ?_)
  · skip
    refine lv_iload_n hx hb dX4_cutAfter_12 rfl (lv_at hl 1 rfl) ?_
    refine lv_iconst (v := -1) hx hb dX4_cutAfter_13 (by decide) ?_
    refine lv_icmp_ge (tgt := 21) hx hb dX4_cutAfter_14 (by decide) (fun c_2 => ?_) (fun c_2 => ?_)
    · skip
      refine lv_iconst (v := 0) hx hb dX4_cutAfter_21 (by decide) ?_
      refine va_put (D := D) (ci := 4) (v := .int 0) (ty := .int) (C := RX4) (T := TX4) (N := 20) hx hb hts hin4 tyX4 tyX4_ok nmX4 hown hK hP hD hS 0 rfl rfl 0 (by decide) hf36 (fun _ h9 => h9) rfl (by decide +kernel) rfl rfl (Nat.le_of_ble_eq_true rfl) dX4_cutAfter_22 (fun H locs hP hD hS => ?_)
      have hP : va_P D vwCl [(h0, .inr (4, [.int 0, .int (zb qq.1), .int qq.2.1, .int qq.2.2.1, .ref g1, .ref g2, .ref g3, .ref g4, .ref g5, .ref g6, .int (zb qq.2.2.2), .int (zb wi), .int (zb mo), .int mv, .int fr, .int sh, .int gr, .int cp, .int ra, .int rl]))] H := hP
      have hD : va_D A [(h0, .inr (4, [.int 0, .int (zb qq.1), .int qq.2.1, .int qq.2.2.1, .ref g1, .ref g2, .ref g3, .ref g4, .ref g5, .ref g6, .int (zb qq.2.2.2), .int (zb wi), .int (zb mo), .int mv, .int fr, .int sh, .int gr, .int cp, .int ra, .int rl]))] := hD
      refine lv_aload_n hx hb dX4_cutAfter_25 rfl (lv_at hl 0 rfl) ?_
      refine va_get (D := D) (ci := 4) (v := .int 0) (C := RX4) (T := TX4) (N := 20) hx hb hts hin4 hown hK hP 0 rfl rfl 0 (by decide) hf36 (fun _ h9 => h9) rfl dX4_cutAfter_26 ?_
      refine lv_if_ne (tgt := 37) hx hb dX4_cutAfter_29 (by decide) (fun c_3 => ?_) (fun c_3 => ?_)
      · skip
        exact absurd (by decide) c_3
      · skip
        refine lv_aload_n hx hb dX4_cutAfter_32 rfl (lv_at hl 0 rfl) ?_
        refine lv_iload_n hx hb dX4_cutAfter_33 rfl (lv_at hl 1 rfl) ?_
        refine va_put (D := D) (ci := 4) (v := .int p0) (ty := .int) (C := RX4) (T := TX4) (N := 20) hx hb hts hin4 tyX4 tyX4_ok nmX4 hown hK hP hD hS 0 rfl rfl 2 (by decide) hf13 (fun _ h9 => h9) rfl (by decide +kernel) rfl rfl (Nat.le_of_ble_eq_true rfl) dX4_cutAfter_34 (fun H locs hP hD hS => ?_)
        have hP : va_P D vwCl [(h0, .inr (4, [.int 0, .int (zb qq.1), .int p0, .int qq.2.2.1, .ref g1, .ref g2, .ref g3, .ref g4, .ref g5, .ref g6, .int (zb qq.2.2.2), .int (zb wi), .int (zb mo), .int mv, .int fr, .int sh, .int gr, .int cp, .int ra, .int rl]))] H := hP
        have hD : va_D A [(h0, .inr (4, [.int 0, .int (zb qq.1), .int p0, .int qq.2.2.1, .ref g1, .ref g2, .ref g3, .ref g4, .ref g5, .ref g6, .int (zb qq.2.2.2), .int (zb wi), .int (zb mo), .int mv, .int fr, .int sh, .int gr, .int cp, .int ra, .int rl]))] := hD
        have e9_0 : 0 = (m_cut qq p0).1 := by simp only [m_cut, if_neg (z_b1f c_1), if_pos c_2] <;> rfl
        have e9_1 : zb qq.1 = zb ((m_cut qq p0).2).1 := by simp only [m_cut, if_neg (z_b1f c_1), if_pos c_2] <;> rfl
        have e9_2 : p0 = ((m_cut qq p0).2).2.1 := by simp only [m_cut, if_neg (z_b1f c_1), if_pos c_2] <;> rfl
        have e9_3 : qq.2.2.1 = ((m_cut qq p0).2).2.2.1 := by simp only [m_cut, if_neg (z_b1f c_1), if_pos c_2] <;> rfl
        have e9_4 : zb qq.2.2.2 = zb ((m_cut qq p0).2).2.2.2 := by simp only [m_cut, if_neg (z_b1f c_1), if_pos c_2] <;> rfl
        have hPz : va_P D vwCl [(h0, .inr (4, [.int ((m_cut qq p0).1), .int (zb ((m_cut qq p0).2).1), .int (((m_cut qq p0).2).2.1), .int (((m_cut qq p0).2).2.2.1), .ref g1, .ref g2, .ref g3, .ref g4, .ref g5, .ref g6, .int (zb ((m_cut qq p0).2).2.2.2), .int (zb wi), .int (zb mo), .int mv, .int fr, .int sh, .int gr, .int cp, .int ra, .int rl]))] H := by rw [← e9_0, ← e9_1, ← e9_2, ← e9_3, ← e9_4]; exact hP
        exact W.vret hx hb hr (fun t ht hW => ⟨⟨rfl, by rw [ht]; exact hPz⟩, hS.F ht⟩) hS.2.2 dX4_cutAfter_37
    · skip
      refine lv_iconst (v := 2) hx hb dX4_cutAfter_17 (by decide) ?_
      refine lv_goto (tgt := 22) hx hb dX4_cutAfter_18 (by decide) ?_
      refine va_put (D := D) (ci := 4) (v := .int 2) (ty := .int) (C := RX4) (T := TX4) (N := 20) hx hb hts hin4 tyX4 tyX4_ok nmX4 hown hK hP hD hS 0 rfl rfl 0 (by decide) hf36 (fun _ h9 => h9) rfl (by decide +kernel) rfl rfl (Nat.le_of_ble_eq_true rfl) dX4_cutAfter_22 (fun H locs hP hD hS => ?_)
      have hP : va_P D vwCl [(h0, .inr (4, [.int 2, .int (zb qq.1), .int qq.2.1, .int qq.2.2.1, .ref g1, .ref g2, .ref g3, .ref g4, .ref g5, .ref g6, .int (zb qq.2.2.2), .int (zb wi), .int (zb mo), .int mv, .int fr, .int sh, .int gr, .int cp, .int ra, .int rl]))] H := hP
      have hD : va_D A [(h0, .inr (4, [.int 2, .int (zb qq.1), .int qq.2.1, .int qq.2.2.1, .ref g1, .ref g2, .ref g3, .ref g4, .ref g5, .ref g6, .int (zb qq.2.2.2), .int (zb wi), .int (zb mo), .int mv, .int fr, .int sh, .int gr, .int cp, .int ra, .int rl]))] := hD
      refine lv_aload_n hx hb dX4_cutAfter_25 rfl (lv_at hl 0 rfl) ?_
      refine va_get (D := D) (ci := 4) (v := .int 2) (C := RX4) (T := TX4) (N := 20) hx hb hts hin4 hown hK hP 0 rfl rfl 0 (by decide) hf36 (fun _ h9 => h9) rfl dX4_cutAfter_26 ?_
      refine lv_if_ne (tgt := 37) hx hb dX4_cutAfter_29 (by decide) (fun c_4 => ?_) (fun c_4 => ?_)
      · skip
        have e9_0 : 2 = (m_cut qq p0).1 := by simp only [m_cut, if_neg (z_b1f c_1), if_neg c_2] <;> rfl
        have e9_1 : zb qq.1 = zb ((m_cut qq p0).2).1 := by simp only [m_cut, if_neg (z_b1f c_1), if_neg c_2] <;> rfl
        have e9_2 : qq.2.1 = ((m_cut qq p0).2).2.1 := by simp only [m_cut, if_neg (z_b1f c_1), if_neg c_2] <;> rfl
        have e9_3 : qq.2.2.1 = ((m_cut qq p0).2).2.2.1 := by simp only [m_cut, if_neg (z_b1f c_1), if_neg c_2] <;> rfl
        have e9_4 : zb qq.2.2.2 = zb ((m_cut qq p0).2).2.2.2 := by simp only [m_cut, if_neg (z_b1f c_1), if_neg c_2] <;> rfl
        have hPz : va_P D vwCl [(h0, .inr (4, [.int ((m_cut qq p0).1), .int (zb ((m_cut qq p0).2).1), .int (((m_cut qq p0).2).2.1), .int (((m_cut qq p0).2).2.2.1), .ref g1, .ref g2, .ref g3, .ref g4, .ref g5, .ref g6, .int (zb ((m_cut qq p0).2).2.2.2), .int (zb wi), .int (zb mo), .int mv, .int fr, .int sh, .int gr, .int cp, .int ra, .int rl]))] H := by rw [← e9_0, ← e9_1, ← e9_2, ← e9_3, ← e9_4]; exact hP
        exact W.vret hx hb hr (fun t ht hW => ⟨⟨rfl, by rw [ht]; exact hPz⟩, hS.F ht⟩) hS.2.2 dX4_cutAfter_37
      · skip
        exact absurd c_4 (by decide)
  · skip
    refine lv_iconst (v := 1) hx hb dX4_cutAfter_8 (by decide) ?_
    refine lv_goto (tgt := 22) hx hb dX4_cutAfter_9 (by decide) ?_
    refine va_put (D := D) (ci := 4) (v := .int 1) (ty := .int) (C := RX4) (T := TX4) (N := 20) hx hb hts hin4 tyX4 tyX4_ok nmX4 hown hK hP hD hS 0 rfl rfl 0 (by decide) hf36 (fun _ h9 => h9) rfl (by decide +kernel) rfl rfl (Nat.le_of_ble_eq_true rfl) dX4_cutAfter_22 (fun H locs hP hD hS => ?_)
    have hP : va_P D vwCl [(h0, .inr (4, [.int 1, .int (zb qq.1), .int qq.2.1, .int qq.2.2.1, .ref g1, .ref g2, .ref g3, .ref g4, .ref g5, .ref g6, .int (zb qq.2.2.2), .int (zb wi), .int (zb mo), .int mv, .int fr, .int sh, .int gr, .int cp, .int ra, .int rl]))] H := hP
    have hD : va_D A [(h0, .inr (4, [.int 1, .int (zb qq.1), .int qq.2.1, .int qq.2.2.1, .ref g1, .ref g2, .ref g3, .ref g4, .ref g5, .ref g6, .int (zb qq.2.2.2), .int (zb wi), .int (zb mo), .int mv, .int fr, .int sh, .int gr, .int cp, .int ra, .int rl]))] := hD
    refine lv_aload_n hx hb dX4_cutAfter_25 rfl (lv_at hl 0 rfl) ?_
    refine va_get (D := D) (ci := 4) (v := .int 1) (C := RX4) (T := TX4) (N := 20) hx hb hts hin4 hown hK hP 0 rfl rfl 0 (by decide) hf36 (fun _ h9 => h9) rfl dX4_cutAfter_26 ?_
    refine lv_if_ne (tgt := 37) hx hb dX4_cutAfter_29 (by decide) (fun c_5 => ?_) (fun c_5 => ?_)
    · skip
      have e9_0 : 1 = (m_cut qq p0).1 := by simp only [m_cut, if_pos (z_b0 c_1)] <;> rfl
      have e9_1 : zb qq.1 = zb ((m_cut qq p0).2).1 := by simp only [m_cut, if_pos (z_b0 c_1)] <;> rfl
      have e9_2 : qq.2.1 = ((m_cut qq p0).2).2.1 := by simp only [m_cut, if_pos (z_b0 c_1)] <;> rfl
      have e9_3 : qq.2.2.1 = ((m_cut qq p0).2).2.2.1 := by simp only [m_cut, if_pos (z_b0 c_1)] <;> rfl
      have e9_4 : zb qq.2.2.2 = zb ((m_cut qq p0).2).2.2.2 := by simp only [m_cut, if_pos (z_b0 c_1)] <;> rfl
      have hPz : va_P D vwCl [(h0, .inr (4, [.int ((m_cut qq p0).1), .int (zb ((m_cut qq p0).2).1), .int (((m_cut qq p0).2).2.1), .int (((m_cut qq p0).2).2.2.1), .ref g1, .ref g2, .ref g3, .ref g4, .ref g5, .ref g6, .int (zb ((m_cut qq p0).2).2.2.2), .int (zb wi), .int (zb mo), .int mv, .int fr, .int sh, .int gr, .int cp, .int ra, .int rl]))] H := by rw [← e9_0, ← e9_1, ← e9_2, ← e9_3, ← e9_4]; exact hP
      exact W.vret hx hb hr (fun t ht hW => ⟨⟨rfl, by rw [ht]; exact hPz⟩, hS.F ht⟩) hS.2.2 dX4_cutAfter_37
    · skip
      exact absurd c_5 (by decide)
theorem qd_X4_entries : yX4_entries.cls = RX4 ∧ yX4_entries.cls ≠ "java/lang/invoke/MethodHandle" ∧ yX4_entries.cls ≠ "java/lang/invoke/VarHandle" ∧ (parseMethodDescriptor yX4_entries.desc).map (fun d => d.parameters.length) = some 0 := by decide +kernel
set_option maxHeartbeats 400000 in
set_option maxRecDepth 100000 in
/-- entries -/
theorem c_X4_entries (l : Launch) (D : va_G) (cI : ClassId) (h0 : Nat) (g1 : Nat) (g2 : Nat) (g3 : Nat) (g4 : Nat) (g5 : Nat) (g6 : Nat) (code : Int32) (qq : zQ) (wi : Bool) (mo : Bool) (mv : Int32) (fr : Int32) (sh : Int32) (gr : Int32) (cp : Int32) (ra : Int32) (rl : Int32) (ow : zA) (sz : Nat) : Met l yX4_entries wsX4_entries ({ frames := 1, cells := 0, slots := 0, locals := 22 }) (z_Pw D cI [.ref h0] [(h0, .inr (4, [.int code, .int (zb qq.1), .int qq.2.1, .int qq.2.2.1, .ref g1, .ref g2, .ref g3, .ref g4, .ref g5, .ref g6, .int (zb qq.2.2.2), .int (zb wi), .int (zb mo), .int mv, .int fr, .int sh, .int gr, .int cp, .int ra, .int rl])), (g2, .inl (cI, 48, .inl ow))] sz) (z_Wo D (some (.int ((m_entries qq ow).1))) [(h0, .inr (4, [.int ((m_entries qq ow).2), .int (zb qq.1), .int qq.2.1, .int qq.2.2.1, .ref g1, .ref g2, .ref g3, .ref g4, .ref g5, .ref g6, .int (zb qq.2.2.2), .int (zb wi), .int (zb mo), .int mv, .int fr, .int sh, .int gr, .int cp, .int ra, .int rl])), (g2, .inl (cI, 48, .inl ow))] (va_A [(h0, .inr (4, [.int code, .int (zb qq.1), .int qq.2.1, .int qq.2.2.1, .ref g1, .ref g2, .ref g3, .ref g4, .ref g5, .ref g6, .int (zb qq.2.2.2), .int (zb wi), .int (zb mo), .int mv, .int fr, .int sh, .int gr, .int cp, .int ra, .int rl])), (g2, .inl (cI, 48, .inl ow))] sz)) 0 0 (va_A [(h0, .inr (4, [.int code, .int (zb qq.1), .int qq.2.1, .int qq.2.2.1, .ref g1, .ref g2, .ref g3, .ref g4, .ref g5, .ref g6, .int (zb qq.2.2.2), .int (zb wi), .int (zb mo), .int mv, .int fr, .int sh, .int gr, .int cp, .int ra, .int rl])), (g2, .inl (cI, 48, .inl ow))] sz) := by
  refine Met.ofW (cc := cX4_entries) (maxL := 1) (ret := (some .int)) (by decide) rfl ?_
  intro p e s m args below meth c s₁ B hml hv
  obtain ⟨rfl, hsz, hP, hK, hD0⟩ := hv
  have hx := B.exec
  have hb := B.bytes
  have hr := B.returns
  have hts := atoms_spec (ws := wsX4_entries) B.pre
  have hown : s.vm.findClass RX4 = some m.cls := findClass_of_methodNamed B.named
  have hlocks := B.notSynchronized
  subst hsz
  have hD := hD0.self (sz := s.heap.size)
  generalize hAe : va_A [(h0, .inr (4, [.int code, .int (zb qq.1), .int qq.2.1, .int qq.2.2.1, .ref g1, .ref g2, .ref g3, .ref g4, .ref g5, .ref g6, .int (zb qq.2.2.2), .int (zb wi), .int (zb mo), .int mv, .int fr, .int sh, .int gr, .int cp, .int ra, .int rl])), (g2, .inl (cI, 48, .inl ow))] s.heap.size = A at hD ⊢
  have hA : ∀ q : Nat, s.heap.size ≤ q → A q := fun q h => by rw [← hAe]; exact Or.inr h
  have hS : va_S A s.heap s.heap [] := va_S.rf
  have hP : va_P D vwCl [(h0, .inr (4, [.int code, .int (zb qq.1), .int qq.2.1, .int qq.2.2.1, .ref g1, .ref g2, .ref g3, .ref g4, .ref g5, .ref g6, .int (zb qq.2.2.2), .int (zb wi), .int (zb mo), .int mv, .int fr, .int sh, .int gr, .int cp, .int ra, .int rl])), (g2, .inl (cI, 48, .inl ow))] s.heap := hP
  have hl := lv_entry ([.ref h0]) (n := 1) (Nat.le_of_ble_eq_true rfl)
  rw [lg_entry_eq]
  generalize (lg_sl ([.ref h0]) ++ List.replicate (1 - (lg_sl ([.ref h0])).length) Slot.unset).toArray = ls at hl ⊢
  have hl : lv_has ls 1 [(0, .ref h0)] := hl
  refine z_start hP hS (fun H locs hP hS => ?_)
  have hin4 : ∀ w ∈ wsX40, w ∈ wsX4_entries := by decide +kernel
  have hf7 := hts (.fieldLink RX4 7 "SqueezedVolumeModel" "on" "Z") (by decide +kernel)
  have hf36 := hts (.fieldLink RX4 36 "SqueezedVolumeModel" "code" "I") (by decide +kernel)
  refine lv_aload_n hx hb dX4_entries_0 rfl (lv_at hl 0 rfl) ?_
  refine lv_aload_n hx hb dX4_entries_1 rfl (lv_at hl 0 rfl) ?_
  refine va_get (D := D) (ci := 4) (v := .int (zb qq.1)) (C := RX4) (T := TX4) (N := 20) hx hb hts hin4 hown hK hP 0 rfl rfl 1 (by decide) hf7 (fun _ h9 => h9) rfl dX4_entries_2 ?_
  refine lv_if_eq (tgt := 12) hx hb dX4_entries_5 (by decide) (fun c_1 => ?_) (fun c_1 => ?_)
  · skip
    refine lv_iconst (v := 1) hx hb dX4_entries_12 (by decide) ?_
    refine va_put (D := D) (ci := 4) (v := .int 1) (ty := .int) (C := RX4) (T := TX4) (N := 20) hx hb hts hin4 tyX4 tyX4_ok nmX4 hown hK hP hD hS 0 rfl rfl 0 (by decide) hf36 (fun _ h9 => h9) rfl (by decide +kernel) rfl rfl (Nat.le_of_ble_eq_true rfl) dX4_entries_13 (fun H locs hP hD hS => ?_)
    have hP : va_P D vwCl [(h0, .inr (4, [.int 1, .int (zb qq.1), .int qq.2.1, .int qq.2.2.1, .ref g1, .ref g2, .ref g3, .ref g4, .ref g5, .ref g6, .int (zb qq.2.2.2), .int (zb wi), .int (zb mo), .int mv, .int fr, .int sh, .int gr, .int cp, .int ra, .int rl])), (g2, .inl (cI, 48, .inl ow))] H := hP
    have hD : va_D A [(h0, .inr (4, [.int 1, .int (zb qq.1), .int qq.2.1, .int qq.2.2.1, .ref g1, .ref g2, .ref g3, .ref g4, .ref g5, .ref g6, .int (zb qq.2.2.2), .int (zb wi), .int (zb mo), .int mv, .int fr, .int sh, .int gr, .int cp, .int ra, .int rl])), (g2, .inl (cI, 48, .inl ow))] := hD
    refine lv_aload_n hx hb dX4_entries_16 rfl (lv_at hl 0 rfl) ?_
    refine va_get (D := D) (ci := 4) (v := .int 1) (C := RX4) (T := TX4) (N := 20) hx hb hts hin4 hown hK hP 0 rfl rfl 0 (by decide) hf36 (fun _ h9 => h9) rfl dX4_entries_17 ?_
    refine lv_if_le (tgt := 27) hx hb dX4_entries_20 (by decide) (fun c_2 => ?_) (fun c_2 => ?_)
    · skip
      exact absurd c_2 (by decide)
    · skip
      refine lv_iconst (v := 0) hx hb dX4_entries_23 (by decide) ?_
      refine lv_goto (tgt := 31) hx hb dX4_entries_24 (by decide) ?_
      have hE : m_entries qq ow = (0, 1) := by simp only [m_entries, if_pos (z_b0 c_1)] <;> rfl
      have hPz : va_P D vwCl [(h0, .inr (4, [.int ((m_entries qq ow).2), .int (zb qq.1), .int qq.2.1, .int qq.2.2.1, .ref g1, .ref g2, .ref g3, .ref g4, .ref g5, .ref g6, .int (zb qq.2.2.2), .int (zb wi), .int (zb mo), .int mv, .int fr, .int sh, .int gr, .int cp, .int ra, .int rl])), (g2, .inl (cI, 48, .inl ow))] H := by rw [hE]; exact hP
      have hRr : 0 = (m_entries qq ow).1 := by first | (rw [hE]; done) | (rw [hE]; rfl)
      exact W.iret (v := 0) hx hb hr (fun t ht hW => ⟨⟨z_ret hRr, by rw [ht]; exact hPz⟩, hS.F ht⟩) hS.2.2 dX4_entries_31
  · skip
    refine lv_iconst (v := 0) hx hb dX4_entries_8 (by decide) ?_
    refine lv_goto (tgt := 13) hx hb dX4_entries_9 (by decide) ?_
    refine va_put (D := D) (ci := 4) (v := .int 0) (ty := .int) (C := RX4) (T := TX4) (N := 20) hx hb hts hin4 tyX4 tyX4_ok nmX4 hown hK hP hD hS 0 rfl rfl 0 (by decide) hf36 (fun _ h9 => h9) rfl (by decide +kernel) rfl rfl (Nat.le_of_ble_eq_true rfl) dX4_entries_13 (fun H locs hP hD hS => ?_)
    have hP : va_P D vwCl [(h0, .inr (4, [.int 0, .int (zb qq.1), .int qq.2.1, .int qq.2.2.1, .ref g1, .ref g2, .ref g3, .ref g4, .ref g5, .ref g6, .int (zb qq.2.2.2), .int (zb wi), .int (zb mo), .int mv, .int fr, .int sh, .int gr, .int cp, .int ra, .int rl])), (g2, .inl (cI, 48, .inl ow))] H := hP
    have hD : va_D A [(h0, .inr (4, [.int 0, .int (zb qq.1), .int qq.2.1, .int qq.2.2.1, .ref g1, .ref g2, .ref g3, .ref g4, .ref g5, .ref g6, .int (zb qq.2.2.2), .int (zb wi), .int (zb mo), .int mv, .int fr, .int sh, .int gr, .int cp, .int ra, .int rl])), (g2, .inl (cI, 48, .inl ow))] := hD
    refine lv_aload_n hx hb dX4_entries_16 rfl (lv_at hl 0 rfl) ?_
    refine va_get (D := D) (ci := 4) (v := .int 0) (C := RX4) (T := TX4) (N := 20) hx hb hts hin4 hown hK hP 0 rfl rfl 0 (by decide) hf36 (fun _ h9 => h9) rfl dX4_entries_17 ?_
    refine lv_if_le (tgt := 27) hx hb dX4_entries_20 (by decide) (fun c_3 => ?_) (fun c_3 => ?_)
    · skip
      refine lv_aload_n hx hb dX4_entries_27 rfl (lv_at hl 0 rfl) ?_
      refine z_callRi (va_runV (As := []) (rest := []) ⟨hx, hb, hml, hown, hts⟩ (c_X4_runsNow l D cI h0 g1 g2 g3 g4 g5 g6 0 qq wi mo mv fr sh gr cp ra rl ow) (cwV 0 hts gX4_entries_X4_runsNow rfl rfl rfl qd_X4_runsNow ⟨Nat.le_of_ble_eq_true rfl, Nat.le_of_ble_eq_true rfl⟩) ⟨z_Pr_blind, va_recv hK hP (ci := 4) (q0 := 0) rfl rfl, fun U hU hW => ⟨rfl, by rw [hU]; exact hP, va_K.moved hW.alike hK⟩⟩ rfl rfl hl.1 rfl (lv_room (Nat.le_of_ble_eq_true rfl)) dX4_entries_28 ⟨Nat.le_of_ble_eq_true rfl, Nat.le_of_ble_eq_true rfl⟩) ?_
      have hE : m_entries qq ow = (m_runF ow 48, 0) := by simp only [m_entries, if_neg (z_b1f c_1)] <;> rfl
      have hPz : va_P D vwCl [(h0, .inr (4, [.int ((m_entries qq ow).2), .int (zb qq.1), .int qq.2.1, .int qq.2.2.1, .ref g1, .ref g2, .ref g3, .ref g4, .ref g5, .ref g6, .int (zb qq.2.2.2), .int (zb wi), .int (zb mo), .int mv, .int fr, .int sh, .int gr, .int cp, .int ra, .int rl])), (g2, .inl (cI, 48, .inl ow))] H := by rw [hE]; exact hP
      have hRr : m_runF ow 48 = (m_entries qq ow).1 := by first | (rw [hE]; done) | (rw [hE]; rfl)
      exact W.iret (v := m_runF ow 48) hx hb hr (fun t ht hW => ⟨⟨z_ret hRr, by rw [ht]; exact hPz⟩, hS.F ht⟩) hS.2.2 dX4_entries_31
    · skip
      exact absurd (by decide) c_3
theorem qd_X4_free : yX4_free.cls = RX4 ∧ yX4_free.cls ≠ "java/lang/invoke/MethodHandle" ∧ yX4_free.cls ≠ "java/lang/invoke/VarHandle" ∧ (parseMethodDescriptor yX4_free.desc).map (fun d => d.parameters.length) = some 1 := by decide +kernel
set_option maxHeartbeats 400000 in
set_option maxRecDepth 100000 in
/-- free -/
theorem c_X4_free (l : Launch) (D : va_G) (cI : ClassId) (h0 : Nat) (g1 : Nat) (g2 : Nat) (g3 : Nat) (g4 : Nat) (g5 : Nat) (g6 : Nat) (code : Int32) (qq : zQ) (wi : Bool) (mo : Bool) (mv : Int32) (fr : Int32) (sh : Int32) (gr : Int32) (cp : Int32) (ra : Int32) (rl : Int32) (ow : zA) (p0 : Int32) (sz : Nat) : Met l yX4_free wsX4_free ({ frames := 2, cells := 0, slots := 0, locals := 47 }) (z_Pw D cI [.ref h0, .int p0] [(h0, .inr (4, [.int code, .int (zb qq.1), .int qq.2.1, .int qq.2.2.1, .ref g1, .ref g2, .ref g3, .ref g4, .ref g5, .ref g6, .int (zb qq.2.2.2), .int (zb wi), .int (zb mo), .int mv, .int fr, .int sh, .int gr, .int cp, .int ra, .int rl])), (g2, .inl (cI, 48, .inl ow))] sz) (z_Wo D (some (.int ((m_free qq ow p0).1))) [(h0, .inr (4, [.int ((m_free qq ow p0).2), .int (zb qq.1), .int qq.2.1, .int qq.2.2.1, .ref g1, .ref g2, .ref g3, .ref g4, .ref g5, .ref g6, .int (zb qq.2.2.2), .int (zb wi), .int (zb mo), .int mv, .int fr, .int sh, .int gr, .int cp, .int ra, .int rl])), (g2, .inl (cI, 48, .inl ow))] (va_A [(h0, .inr (4, [.int code, .int (zb qq.1), .int qq.2.1, .int qq.2.2.1, .ref g1, .ref g2, .ref g3, .ref g4, .ref g5, .ref g6, .int (zb qq.2.2.2), .int (zb wi), .int (zb mo), .int mv, .int fr, .int sh, .int gr, .int cp, .int ra, .int rl])), (g2, .inl (cI, 48, .inl ow))] sz)) 0 0 (va_A [(h0, .inr (4, [.int code, .int (zb qq.1), .int qq.2.1, .int qq.2.2.1, .ref g1, .ref g2, .ref g3, .ref g4, .ref g5, .ref g6, .int (zb qq.2.2.2), .int (zb wi), .int (zb mo), .int mv, .int fr, .int sh, .int gr, .int cp, .int ra, .int rl])), (g2, .inl (cI, 48, .inl ow))] sz) := by
  refine Met.ofW (cc := cX4_free) (maxL := 2) (ret := (some .int)) (by decide) rfl ?_
  intro p e s m args below meth c s₁ B hml hv
  obtain ⟨rfl, hsz, hP, hK, hD0⟩ := hv
  have hx := B.exec
  have hb := B.bytes
  have hr := B.returns
  have hts := atoms_spec (ws := wsX4_free) B.pre
  have hown : s.vm.findClass RX4 = some m.cls := findClass_of_methodNamed B.named
  have hlocks := B.notSynchronized
  subst hsz
  have hD := hD0.self (sz := s.heap.size)
  generalize hAe : va_A [(h0, .inr (4, [.int code, .int (zb qq.1), .int qq.2.1, .int qq.2.2.1, .ref g1, .ref g2, .ref g3, .ref g4, .ref g5, .ref g6, .int (zb qq.2.2.2), .int (zb wi), .int (zb mo), .int mv, .int fr, .int sh, .int gr, .int cp, .int ra, .int rl])), (g2, .inl (cI, 48, .inl ow))] s.heap.size = A at hD ⊢
  have hA : ∀ q : Nat, s.heap.size ≤ q → A q := fun q h => by rw [← hAe]; exact Or.inr h
  have hS : va_S A s.heap s.heap [] := va_S.rf
  have hP : va_P D vwCl [(h0, .inr (4, [.int code, .int (zb qq.1), .int qq.2.1, .int qq.2.2.1, .ref g1, .ref g2, .ref g3, .ref g4, .ref g5, .ref g6, .int (zb qq.2.2.2), .int (zb wi), .int (zb mo), .int mv, .int fr, .int sh, .int gr, .int cp, .int ra, .int rl])), (g2, .inl (cI, 48, .inl ow))] s.heap := hP
  have hl := lv_entry ([.ref h0, .int p0]) (n := 2) (Nat.le_of_ble_eq_true rfl)
  rw [lg_entry_eq]
  generalize (lg_sl ([.ref h0, .int p0]) ++ List.replicate (2 - (lg_sl ([.ref h0, .int p0])).length) Slot.unset).toArray = ls at hl ⊢
  have hl : lv_has ls 2 [(0, .ref h0), (1, .int p0)] := hl
  refine z_start hP hS (fun H locs hP hS => ?_)
  have hin4 : ∀ w ∈ wsX40, w ∈ wsX4_free := by decide +kernel
  have hf7 := hts (.fieldLink RX4 7 "SqueezedVolumeModel" "on" "Z") (by decide +kernel)
  have hf36 := hts (.fieldLink RX4 36 "SqueezedVolumeModel" "code" "I") (by decide +kernel)
  refine lv_aload_n hx hb dX4_free_0 rfl (lv_at hl 0 rfl) ?_
  refine lv_aload_n hx hb dX4_free_1 rfl (lv_at hl 0 rfl) ?_
  refine va_get (D := D) (ci := 4) (v := .int (zb qq.1)) (C := RX4) (T := TX4) (N := 20) hx hb hts hin4 hown hK hP 0 rfl rfl 1 (by decide) hf7 (fun _ h9 => h9) rfl dX4_free_2 ?_
  refine lv_if_eq (tgt := 12) hx hb dX4_free_5 (by decide) (fun c_1 => ?_) (fun c_1 => ?_)
  · skip
    refine lv_iconst (v := 1) hx hb dX4_free_12 (by decide) ?_
    refine va_put (D := D) (ci := 4) (v := .int 1) (ty := .int) (C := RX4) (T := TX4) (N := 20) hx hb hts hin4 tyX4 tyX4_ok nmX4 hown hK hP hD hS 0 rfl rfl 0 (by decide) hf36 (fun _ h9 => h9) rfl (by decide +kernel) rfl rfl (Nat.le_of_ble_eq_true rfl) dX4_free_13 (fun H locs hP hD hS => ?_)
    have hP : va_P D vwCl [(h0, .inr (4, [.int 1, .int (zb qq.1), .int qq.2.1, .int qq.2.2.1, .ref g1, .ref g2, .ref g3, .ref g4, .ref g5, .ref g6, .int (zb qq.2.2.2), .int (zb wi), .int (zb mo), .int mv, .int fr, .int sh, .int gr, .int cp, .int ra, .int rl])), (g2, .inl (cI, 48, .inl ow))] H := hP
    have hD : va_D A [(h0, .inr (4, [.int 1, .int (zb qq.1), .int qq.2.1, .int qq.2.2.1, .ref g1, .ref g2, .ref g3, .ref g4, .ref g5, .ref g6, .int (zb qq.2.2.2), .int (zb wi), .int (zb mo), .int mv, .int fr, .int sh, .int gr, .int cp, .int ra, .int rl])), (g2, .inl (cI, 48, .inl ow))] := hD
    refine lv_aload_n hx hb dX4_free_16 rfl (lv_at hl 0 rfl) ?_
    refine va_get (D := D) (ci := 4) (v := .int 1) (C := RX4) (T := TX4) (N := 20) hx hb hts hin4 hown hK hP 0 rfl rfl 0 (by decide) hf36 (fun _ h9 => h9) rfl dX4_free_17 ?_
    refine lv_if_le (tgt := 27) hx hb dX4_free_20 (by decide) (fun c_2 => ?_) (fun c_2 => ?_)
    · skip
      exact absurd c_2 (by decide)
    · skip
      refine lv_iconst (v := 0) hx hb dX4_free_23 (by decide) ?_
      refine lv_goto (tgt := 44) hx hb dX4_free_24 (by decide) ?_
      have hE : m_free qq ow p0 = (0, 1) := by simp only [m_free, if_pos (z_b0 c_1)] <;> rfl
      have hPz : va_P D vwCl [(h0, .inr (4, [.int ((m_free qq ow p0).2), .int (zb qq.1), .int qq.2.1, .int qq.2.2.1, .ref g1, .ref g2, .ref g3, .ref g4, .ref g5, .ref g6, .int (zb qq.2.2.2), .int (zb wi), .int (zb mo), .int mv, .int fr, .int sh, .int gr, .int cp, .int ra, .int rl])), (g2, .inl (cI, 48, .inl ow))] H := by rw [hE]; exact hP
      have hRr : 0 = (m_free qq ow p0).1 := by first | (rw [hE]; done) | (rw [hE]; rfl)
      exact W.iret (v := 0) hx hb hr (fun t ht hW => ⟨⟨z_ret hRr, by rw [ht]; exact hPz⟩, hS.F ht⟩) hS.2.2 dX4_free_44
  · skip
    refine lv_iconst (v := 0) hx hb dX4_free_8 (by decide) ?_
    refine lv_goto (tgt := 13) hx hb dX4_free_9 (by decide) ?_
    refine va_put (D := D) (ci := 4) (v := .int 0) (ty := .int) (C := RX4) (T := TX4) (N := 20) hx hb hts hin4 tyX4 tyX4_ok nmX4 hown hK hP hD hS 0 rfl rfl 0 (by decide) hf36 (fun _ h9 => h9) rfl (by decide +kernel) rfl rfl (Nat.le_of_ble_eq_true rfl) dX4_free_13 (fun H locs hP hD hS => ?_)
    have hP : va_P D vwCl [(h0, .inr (4, [.int 0, .int (zb qq.1), .int qq.2.1, .int qq.2.2.1, .ref g1, .ref g2, .ref g3, .ref g4, .ref g5, .ref g6, .int (zb qq.2.2.2), .int (zb wi), .int (zb mo), .int mv, .int fr, .int sh, .int gr, .int cp, .int ra, .int rl])), (g2, .inl (cI, 48, .inl ow))] H := hP
    have hD : va_D A [(h0, .inr (4, [.int 0, .int (zb qq.1), .int qq.2.1, .int qq.2.2.1, .ref g1, .ref g2, .ref g3, .ref g4, .ref g5, .ref g6, .int (zb qq.2.2.2), .int (zb wi), .int (zb mo), .int mv, .int fr, .int sh, .int gr, .int cp, .int ra, .int rl])), (g2, .inl (cI, 48, .inl ow))] := hD
    refine lv_aload_n hx hb dX4_free_16 rfl (lv_at hl 0 rfl) ?_
    refine va_get (D := D) (ci := 4) (v := .int 0) (C := RX4) (T := TX4) (N := 20) hx hb hts hin4 hown hK hP 0 rfl rfl 0 (by decide) hf36 (fun _ h9 => h9) rfl dX4_free_17 ?_
    refine lv_if_le (tgt := 27) hx hb dX4_free_20 (by decide) (fun c_3 => ?_) (fun c_3 => ?_)
    · skip
      refine lv_iload_n hx hb dX4_free_27 rfl (lv_at hl 1 rfl) ?_
      refine lv_if_eq (tgt := 39) hx hb dX4_free_28 (by decide) (fun c_4 => ?_) (fun c_4 => ?_)
      · skip
        refine lv_aload_n hx hb dX4_free_39 rfl (lv_at hl 0 rfl) ?_
        refine lv_iconst (v := 0) hx hb dX4_free_40 (by decide) ?_
        refine z_callRi (va_runV (As := [.int 0]) (rest := []) ⟨hx, hb, hml, hown, hts⟩ (c_X4_lengthOf l D cI h0 g1 g2 g3 g4 g5 g6 0 qq wi mo mv fr sh gr cp ra rl ow 0) (cwV 1 hts gX4_free_X4_lengthOf rfl rfl rfl qd_X4_lengthOf ⟨Nat.le_of_ble_eq_true rfl, Nat.le_of_ble_eq_true rfl⟩) ⟨z_Pr_blind, va_recv hK hP (ci := 4) (q0 := 0) rfl rfl, fun U hU hW => ⟨rfl, by rw [hU]; exact hP, va_K.moved hW.alike hK⟩⟩ rfl rfl hl.1 rfl (lv_room (Nat.le_of_ble_eq_true rfl)) dX4_free_41 ⟨Nat.le_of_ble_eq_true rfl, Nat.le_of_ble_eq_true rfl⟩) ?_
        have hE : m_free qq ow p0 = (m_cnt ow 0 48, 0) := by simp only [m_free, if_neg (z_b1f c_1), if_pos c_4] <;> rfl
        have hPz : va_P D vwCl [(h0, .inr (4, [.int ((m_free qq ow p0).2), .int (zb qq.1), .int qq.2.1, .int qq.2.2.1, .ref g1, .ref g2, .ref g3, .ref g4, .ref g5, .ref g6, .int (zb qq.2.2.2), .int (zb wi), .int (zb mo), .int mv, .int fr, .int sh, .int gr, .int cp, .int ra, .int rl])), (g2, .inl (cI, 48, .inl ow))] H := by rw [hE]; exact hP
        have hRr : m_cnt ow 0 48 = (m_free qq ow p0).1 := by first | (rw [hE]; done) | (rw [hE]; rfl)
        exact W.iret (v := m_cnt ow 0 48) hx hb hr (fun t ht hW => ⟨⟨z_ret hRr, by rw [ht]; exact hPz⟩, hS.F ht⟩) hS.2.2 dX4_free_44
      · skip
        refine lv_aload_n hx hb dX4_free_31 rfl (lv_at hl 0 rfl) ?_
        refine lv_iconst (v := 0) hx hb dX4_free_32 (by decide) ?_
        refine z_callRi (va_runV (As := [.int 0]) (rest := []) ⟨hx, hb, hml, hown, hts⟩ (c_X4_longest l D cI h0 g1 g2 g3 g4 g5 g6 0 qq wi mo mv fr sh gr cp ra rl ow 0) (cwV 1 hts gX4_free_X4_longest rfl rfl rfl qd_X4_longest ⟨Nat.le_of_ble_eq_true rfl, Nat.le_of_ble_eq_true rfl⟩) ⟨z_Pr_blind, va_recv hK hP (ci := 4) (q0 := 0) rfl rfl, fun U hU hW => ⟨rfl, by rw [hU]; exact hP, va_K.moved hW.alike hK⟩⟩ rfl rfl hl.1 rfl (lv_room (Nat.le_of_ble_eq_true rfl)) dX4_free_33 ⟨Nat.le_of_ble_eq_true rfl, Nat.le_of_ble_eq_true rfl⟩) ?_
        refine lv_goto (tgt := 44) hx hb dX4_free_36 (by decide) ?_
        have hE : m_free qq ow p0 = (m_lon ow 0, 0) := by simp only [m_free, if_neg (z_b1f c_1), if_neg c_4] <;> rfl
        have hPz : va_P D vwCl [(h0, .inr (4, [.int ((m_free qq ow p0).2), .int (zb qq.1), .int qq.2.1, .int qq.2.2.1, .ref g1, .ref g2, .ref g3, .ref g4, .ref g5, .ref g6, .int (zb qq.2.2.2), .int (zb wi), .int (zb mo), .int mv, .int fr, .int sh, .int gr, .int cp, .int ra, .int rl])), (g2, .inl (cI, 48, .inl ow))] H := by rw [hE]; exact hP
        have hRr : m_lon ow 0 = (m_free qq ow p0).1 := by first | (rw [hE]; done) | (rw [hE]; rfl)
        exact W.iret (v := m_lon ow 0) hx hb hr (fun t ht hW => ⟨⟨z_ret hRr, by rw [ht]; exact hPz⟩, hS.F ht⟩) hS.2.2 dX4_free_44
    · skip
      exact absurd (by decide) c_3
