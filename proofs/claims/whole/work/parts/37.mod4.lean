theorem qd_X4_handle : yX4_handle.cls = RX4 ∧ yX4_handle.cls ≠ "java/lang/invoke/MethodHandle" ∧ yX4_handle.cls ≠ "java/lang/invoke/VarHandle" ∧ (parseMethodDescriptor yX4_handle.desc).map (fun d => d.parameters.length) = some 1 := by decide +kernel
set_option maxHeartbeats 400000 in
set_option maxRecDepth 100000 in
/-- handle -/
theorem c_X4_handle (l : Launch) (D : va_G) (cI : ClassId) (h0 : Nat) (g1 : Nat) (g2 : Nat) (g3 : Nat) (g4 : Nat) (g5 : Nat) (g6 : Nat) (code : Int32) (qq : zQ) (wi : Bool) (mo : Bool) (mv : Int32) (fr : Int32) (sh : Int32) (gr : Int32) (cp : Int32) (ra : Int32) (rl : Int32) (ki : zA) (na : zA) (ha : zA) (p0 : Int32) (sz : Nat) : Met l yX4_handle wsX4_handle ({ frames := 1, cells := 0, slots := 0, locals := 23 }) (z_Pw D cI [.ref h0, .int p0] [(h0, .inr (4, [.int code, .int (zb qq.1), .int qq.2.1, .int qq.2.2.1, .ref g1, .ref g2, .ref g3, .ref g4, .ref g5, .ref g6, .int (zb qq.2.2.2), .int (zb wi), .int (zb mo), .int mv, .int fr, .int sh, .int gr, .int cp, .int ra, .int rl])), (g4, .inl (cI, 17, .inl ki)), (g5, .inl (cI, 17, .inl na)), (g6, .inl (cI, 17, .inl ha))] sz) (z_Wo D (some (.int ((m_handle qq ki na ha p0).1))) [(h0, .inr (4, [.int ((m_handle qq ki na ha p0).2), .int (zb qq.1), .int qq.2.1, .int qq.2.2.1, .ref g1, .ref g2, .ref g3, .ref g4, .ref g5, .ref g6, .int (zb qq.2.2.2), .int (zb wi), .int (zb mo), .int mv, .int fr, .int sh, .int gr, .int cp, .int ra, .int rl])), (g4, .inl (cI, 17, .inl ki)), (g5, .inl (cI, 17, .inl na)), (g6, .inl (cI, 17, .inl ha))] (va_A [(h0, .inr (4, [.int code, .int (zb qq.1), .int qq.2.1, .int qq.2.2.1, .ref g1, .ref g2, .ref g3, .ref g4, .ref g5, .ref g6, .int (zb qq.2.2.2), .int (zb wi), .int (zb mo), .int mv, .int fr, .int sh, .int gr, .int cp, .int ra, .int rl])), (g4, .inl (cI, 17, .inl ki)), (g5, .inl (cI, 17, .inl na)), (g6, .inl (cI, 17, .inl ha))] sz)) 0 0 (va_A [(h0, .inr (4, [.int code, .int (zb qq.1), .int qq.2.1, .int qq.2.2.1, .ref g1, .ref g2, .ref g3, .ref g4, .ref g5, .ref g6, .int (zb qq.2.2.2), .int (zb wi), .int (zb mo), .int mv, .int fr, .int sh, .int gr, .int cp, .int ra, .int rl])), (g4, .inl (cI, 17, .inl ki)), (g5, .inl (cI, 17, .inl na)), (g6, .inl (cI, 17, .inl ha))] sz) := by
  refine Met.ofW (cc := cX4_handle) (maxL := 5) (ret := (some .int)) (by decide) rfl ?_
  intro p e s m args below meth c s₁ B hml hv
  obtain ⟨rfl, hsz, hP, hK, hD0⟩ := hv
  have hx := B.exec
  have hb := B.bytes
  have hr := B.returns
  have hts := atoms_spec (ws := wsX4_handle) B.pre
  have hown : s.vm.findClass RX4 = some m.cls := findClass_of_methodNamed B.named
  have hlocks := B.notSynchronized
  subst hsz
  have hD := hD0.self (sz := s.heap.size)
  generalize hAe : va_A [(h0, .inr (4, [.int code, .int (zb qq.1), .int qq.2.1, .int qq.2.2.1, .ref g1, .ref g2, .ref g3, .ref g4, .ref g5, .ref g6, .int (zb qq.2.2.2), .int (zb wi), .int (zb mo), .int mv, .int fr, .int sh, .int gr, .int cp, .int ra, .int rl])), (g4, .inl (cI, 17, .inl ki)), (g5, .inl (cI, 17, .inl na)), (g6, .inl (cI, 17, .inl ha))] s.heap.size = A at hD ⊢
  have hA : ∀ q : Nat, s.heap.size ≤ q → A q := fun q h => by rw [← hAe]; exact Or.inr h
  have hS : va_S A s.heap s.heap [] := va_S.rf
  have hP : va_P D vwCl [(h0, .inr (4, [.int code, .int (zb qq.1), .int qq.2.1, .int qq.2.2.1, .ref g1, .ref g2, .ref g3, .ref g4, .ref g5, .ref g6, .int (zb qq.2.2.2), .int (zb wi), .int (zb mo), .int mv, .int fr, .int sh, .int gr, .int cp, .int ra, .int rl])), (g4, .inl (cI, 17, .inl ki)), (g5, .inl (cI, 17, .inl na)), (g6, .inl (cI, 17, .inl ha))] s.heap := hP
  have hl := lv_entry ([.ref h0, .int p0]) (n := 5) (Nat.le_of_ble_eq_true rfl)
  rw [lg_entry_eq]
  generalize (lg_sl ([.ref h0, .int p0]) ++ List.replicate (5 - (lg_sl ([.ref h0, .int p0])).length) Slot.unset).toArray = ls at hl ⊢
  have hl : lv_has ls 5 [(0, .ref h0), (1, .int p0)] := hl
  refine z_start hP hS (fun H locs hP hS => ?_)
  have hin4 : ∀ w ∈ wsX40, w ∈ wsX4_handle := by decide +kernel
  have hf7 := hts (.fieldLink RX4 7 "SqueezedVolumeModel" "on" "Z") (by decide +kernel)
  have hf30 := hts (.fieldLink RX4 30 "SqueezedVolumeModel" "name" "[I") (by decide +kernel)
  have hf36 := hts (.fieldLink RX4 36 "SqueezedVolumeModel" "code" "I") (by decide +kernel)
  have L20 : ∀ (k : Nat) (j : Nat) (x2 : Int32) (x3 : Int32) (cd1 : Int32), (j ≤ 4) → (j < k) → (x3 = nI j - 1) → (cd1 = if qq.1 = false then 1 else 0) → (qq.1 = false → x2 = -1) → (qq.1 = true → m_hdF ki na ha p0 j x2 = m_hdF ki na ha p0 4 (-1)) → ∀ (H : Heap) (locs : List Loc) (ls : Array Slot), va_P D vwCl [(h0, .inr (4, [.int cd1, .int (zb qq.1), .int qq.2.1, .int qq.2.2.1, .ref g1, .ref g2, .ref g3, .ref g4, .ref g5, .ref g6, .int (zb qq.2.2.2), .int (zb wi), .int (zb mo), .int mv, .int fr, .int sh, .int gr, .int cp, .int ra, .int rl])), (g4, .inl (cI, 17, .inl ki)), (g5, .inl (cI, 17, .inl na)), (g6, .inl (cI, 17, .inl ha))] H → va_D A [(h0, .inr (4, [.int cd1, .int (zb qq.1), .int qq.2.1, .int qq.2.2.1, .ref g1, .ref g2, .ref g3, .ref g4, .ref g5, .ref g6, .int (zb qq.2.2.2), .int (zb wi), .int (zb mo), .int mv, .int fr, .int sh, .int gr, .int cp, .int ra, .int rl])), (g4, .inl (cI, 17, .inl ki)), (g5, .inl (cI, 17, .inl na)), (g6, .inl (cI, 17, .inl ha))] → va_S A s.heap H locs → lv_has ls 5 [(0, .ref h0), (1, .int p0), (2, .int x2), (3, .int x3)] → W p l e ({ frames := 1, cells := 0, slots := 0, locals := 23 }) s m ([.ref h0, .int p0] : List Value).toArray below meth c H locs 0 0 (MQ below (z_Wo D (some (.int ((m_handle qq ki na ha p0).1))) [(h0, .inr (4, [.int ((m_handle qq ki na ha p0).2), .int (zb qq.1), .int qq.2.1, .int qq.2.2.1, .ref g1, .ref g2, .ref g3, .ref g4, .ref g5, .ref g6, .int (zb qq.2.2.2), .int (zb wi), .int (zb mo), .int mv, .int fr, .int sh, .int gr, .int cp, .int ra, .int rl])), (g4, .inl (cI, 17, .inl ki)), (g5, .inl (cI, 17, .inl na)), (g6, .inl (cI, 17, .inl ha))] A) ([.ref h0, .int p0] : List Value).toArray s 0 0 A) (F0 m 20 ls []) := by
    intro k
    induction k with
    | zero =>
      intro j x2 x3 cd1 hj hk ex3 ec e0 er
      exfalso; exact absurd hk (Nat.not_lt_zero _)
    | succ k ih =>
      intro j x2 x3 cd1 hj hk ex3 ec e0 er
      intro H locs ls hP hD hS hl
      refine lv_iload_n hx hb dX4_handle_20 rfl (lv_at hl 3 rfl) ?_
      refine lv_if_lt (tgt := 66) hx hb dX4_handle_21 (by decide) (fun c_1 => ?_) (fun c_1 => ?_)
      · skip
        refine lv_iload_n hx hb dX4_handle_66 rfl (lv_at hl 2 rfl) ?_
        have hE : m_handle qq ki na ha p0 = (x2, cd1) := by have hj0 := z_down0 (Nat.lt_of_le_of_lt hj (by decide)) ex3 c_1; subst hj0; by_cases hq : qq.1 = false; (· rw [m_handle, if_pos hq, e0 hq, ec, if_pos hq]); (· have h9 := er (by simpa using hq); rw [m_handle, if_neg hq, ec, if_neg hq, ← h9, m_hdF])
        have hPz : va_P D vwCl [(h0, .inr (4, [.int ((m_handle qq ki na ha p0).2), .int (zb qq.1), .int qq.2.1, .int qq.2.2.1, .ref g1, .ref g2, .ref g3, .ref g4, .ref g5, .ref g6, .int (zb qq.2.2.2), .int (zb wi), .int (zb mo), .int mv, .int fr, .int sh, .int gr, .int cp, .int ra, .int rl])), (g4, .inl (cI, 17, .inl ki)), (g5, .inl (cI, 17, .inl na)), (g6, .inl (cI, 17, .inl ha))] H := by rw [hE]; exact hP
        have hRr : x2 = (m_handle qq ki na ha p0).1 := by first | (rw [hE]; done) | (rw [hE]; rfl)
        exact W.iret (v := x2) hx hb hr (fun t ht hW => ⟨⟨z_ret hRr, by rw [ht]; exact hPz⟩, hS.F ht⟩) hS.2.2 dX4_handle_67
      · skip
        obtain ⟨i9, ej9, ei9⟩ := z_down (Nat.lt_of_le_of_lt hj (by decide)) ex3 c_1
        refine lv_aload_n hx hb dX4_handle_24 rfl (lv_at hl 0 rfl) ?_
        refine va_get (D := D) (ci := 4) (v := .int (zb qq.1)) (C := RX4) (T := TX4) (N := 20) hx hb hts hin4 hown hK hP 0 rfl rfl 1 (by decide) hf7 (fun _ h9 => h9) rfl dX4_handle_25 ?_
        refine lv_if_eq (tgt := 66) hx hb dX4_handle_28 (by decide) (fun c_2 => ?_) (fun c_2 => ?_)
        · skip
          refine lv_iload_n hx hb dX4_handle_66 rfl (lv_at hl 2 rfl) ?_
          have hE : m_handle qq ki na ha p0 = (x2, cd1) := by rw [m_handle, if_pos (z_b0 c_2), e0 (z_b0 c_2), ec, if_pos (z_b0 c_2)]
          have hPz : va_P D vwCl [(h0, .inr (4, [.int ((m_handle qq ki na ha p0).2), .int (zb qq.1), .int qq.2.1, .int qq.2.2.1, .ref g1, .ref g2, .ref g3, .ref g4, .ref g5, .ref g6, .int (zb qq.2.2.2), .int (zb wi), .int (zb mo), .int mv, .int fr, .int sh, .int gr, .int cp, .int ra, .int rl])), (g4, .inl (cI, 17, .inl ki)), (g5, .inl (cI, 17, .inl na)), (g6, .inl (cI, 17, .inl ha))] H := by rw [hE]; exact hP
          have hRr : x2 = (m_handle qq ki na ha p0).1 := by first | (rw [hE]; done) | (rw [hE]; rfl)
          exact W.iret (v := x2) hx hb hr (fun t ht hW => ⟨⟨z_ret hRr, by rw [ht]; exact hPz⟩, hS.F ht⟩) hS.2.2 dX4_handle_67
        · skip
          refine lv_aload_n hx hb dX4_handle_31 rfl (lv_at hl 0 rfl) ?_
          refine lv_iload_n hx hb dX4_handle_32 rfl (lv_at hl 3 rfl) ?_
          refine z_callRi (va_runV (As := [.int x3]) (rest := []) ⟨hx, hb, hml, hown, hts⟩ (c_X4_byHandle l D cI h0 g1 g2 g3 g4 g5 g6 cd1 qq wi mo mv fr sh gr cp ra rl ki ha x3) (cwV 1 hts gX4_handle_X4_byHandle rfl rfl rfl qd_X4_byHandle ⟨Nat.le_of_ble_eq_true rfl, Nat.le_of_ble_eq_true rfl⟩) ⟨z_Pr_blind, va_recv hK hP (ci := 4) (q0 := 0) rfl rfl, fun U hU hW => ⟨rfl, by rw [hU]; exact hP.sub (ws' := [(h0, .inr (4, [.int cd1, .int (zb qq.1), .int qq.2.1, .int qq.2.2.1, .ref g1, .ref g2, .ref g3, .ref g4, .ref g5, .ref g6, .int (zb qq.2.2.2), .int (zb wi), .int (zb mo), .int mv, .int fr, .int sh, .int gr, .int cp, .int ra, .int rl])), (g4, .inl (cI, 17, .inl ki)), (g6, .inl (cI, 17, .inl ha))]) [0, 1, 3] rfl, va_K.moved hW.alike hK⟩⟩ rfl rfl hl.1 rfl (lv_room (Nat.le_of_ble_eq_true rfl)) dX4_handle_33 ⟨Nat.le_of_ble_eq_true rfl, Nat.le_of_ble_eq_true rfl⟩) ?_
          refine lv_istore (lv' := [(4, .int (nI (m_hand ki ha x3))), (0, .ref h0), (1, .int p0), (2, .int x2), (3, .int x3)]) hx hb dX4_handle_36 hl (by decide) rfl (fun ls hl => ?_)
          refine lv_iload hx hb dX4_handle_38 (lv_at hl 0 rfl) ?_
          refine lv_if_le (tgt := 58) hx hb dX4_handle_40 (by decide) (fun c_3 => ?_) (fun c_3 => ?_)
          · skip
            refine lv_iload_n hx hb dX4_handle_58 rfl (lv_at hl 3 rfl) ?_
            refine lv_istore_n (lv' := [(2, .int x2), (4, .int (nI (m_hand ki ha x3))), (0, .ref h0), (1, .int p0), (3, .int x3)]) hx hb dX4_handle_59 rfl hl (by decide) rfl (fun ls hl => ?_)
            refine lv_iinc (v := x3 - 1) (lv' := [(3, .int (x3 - 1)), (2, .int x2), (4, .int (nI (m_hand ki ha x3))), (0, .ref h0), (1, .int p0)]) hx hb dX4_handle_60 hl (k := 4) rfl (by exact z_sub1 _) (by decide) rfl (fun ls hl => ?_)
            refine lv_goto (tgt := 20) hx hb dX4_handle_63 (by decide) ?_
            exact ih i9 x2 (x3 - 1) cd1 (by omega) (by omega) (by rw [ei9]) ec (fun h9 => absurd h9 (z_b1f c_2)) (fun h8 => by have h9 := er h8; subst ej9; subst ei9; simp only [m_hdF, if_pos c_3] at h9; exact h9) H locs ls hP hD hS (lv_sub hl [3, 4, 1, 0] rfl)
          · skip
            refine lv_aload_n hx hb dX4_handle_43 rfl (lv_at hl 1 rfl) ?_
            refine va_get (D := D) (ci := 4) (v := .ref g5) (C := RX4) (T := TX4) (N := 20) hx hb hts hin4 hown hK hP 0 rfl rfl 8 (by decide) hf30 (fun _ h9 => h9) rfl dX4_handle_44 ?_
            refine lv_iload hx hb dX4_handle_47 (lv_at hl 0 rfl) ?_
            refine va_iald hx hb hK hP 2 0 rfl rfl (z_ix rfl (m_hand_17 _ _ _) (by decide)) dX4_handle_49 ?_
            refine W.eq (g2 := F0 m 50 ls [.int (na (m_hand ki ha x3))]) (by rw [z_ic rfl (m_hand_17 _ _ _) (by decide)]) ?_
            refine lv_iload_n hx hb dX4_handle_50 rfl (lv_at hl 2 rfl) ?_
            refine lv_icmp_ne (tgt := 58) hx hb dX4_handle_51 (by decide) (fun c_4 => ?_) (fun c_4 => ?_)
            · skip
              refine lv_iload_n hx hb dX4_handle_58 rfl (lv_at hl 3 rfl) ?_
              refine lv_istore_n (lv' := [(2, .int x2), (4, .int (nI (m_hand ki ha x3))), (0, .ref h0), (1, .int p0), (3, .int x3)]) hx hb dX4_handle_59 rfl hl (by decide) rfl (fun ls hl => ?_)
              refine lv_iinc (v := x3 - 1) (lv' := [(3, .int (x3 - 1)), (2, .int x2), (4, .int (nI (m_hand ki ha x3))), (0, .ref h0), (1, .int p0)]) hx hb dX4_handle_60 hl (k := 4) rfl (by exact z_sub1 _) (by decide) rfl (fun ls hl => ?_)
              refine lv_goto (tgt := 20) hx hb dX4_handle_63 (by decide) ?_
              exact ih i9 x2 (x3 - 1) cd1 (by omega) (by omega) (by rw [ei9]) ec (fun h9 => absurd h9 (z_b1f c_2)) (fun h8 => by have h9 := er h8; subst ej9; subst ei9; simp only [m_hdF, if_neg c_3, if_neg c_4] at h9; exact h9) H locs ls hP hD hS (lv_sub hl [3, 4, 1, 0] rfl)
            · skip
              refine lv_iload_n hx hb dX4_handle_54 rfl (lv_at hl 4 rfl) ?_
              refine lv_goto (tgt := 59) hx hb dX4_handle_55 (by decide) ?_
              refine lv_istore_n (lv' := [(2, .int x3), (4, .int (nI (m_hand ki ha x3))), (0, .ref h0), (1, .int p0), (3, .int x3)]) hx hb dX4_handle_59 rfl hl (by decide) rfl (fun ls hl => ?_)
              refine lv_iinc (v := x3 - 1) (lv' := [(3, .int (x3 - 1)), (2, .int x3), (4, .int (nI (m_hand ki ha x3))), (0, .ref h0), (1, .int p0)]) hx hb dX4_handle_60 hl (k := 4) rfl (by exact z_sub1 _) (by decide) rfl (fun ls hl => ?_)
              refine lv_goto (tgt := 20) hx hb dX4_handle_63 (by decide) ?_
              exact ih i9 x3 (x3 - 1) cd1 (by omega) (by omega) (by rw [ei9]) ec (fun h9 => absurd h9 (z_b1f c_2)) (fun h8 => by have h9 := er h8; subst ej9; subst ei9; simp only [m_hdF, if_neg c_3, if_pos c_4] at h9; exact h9) H locs ls hP hD hS (lv_sub hl [3, 4, 1, 0] rfl)
  refine lv_aload_n hx hb dX4_handle_0 rfl (lv_at hl 0 rfl) ?_
  refine lv_aload_n hx hb dX4_handle_1 rfl (lv_at hl 0 rfl) ?_
  refine va_get (D := D) (ci := 4) (v := .int (zb qq.1)) (C := RX4) (T := TX4) (N := 20) hx hb hts hin4 hown hK hP 0 rfl rfl 1 (by decide) hf7 (fun _ h9 => h9) rfl dX4_handle_2 ?_
  refine lv_if_eq (tgt := 12) hx hb dX4_handle_5 (by decide) (fun c_5 => ?_) (fun c_5 => ?_)
  · skip
    refine lv_iconst (v := 1) hx hb dX4_handle_12 (by decide) ?_
    refine va_put (D := D) (ci := 4) (v := .int 1) (ty := .int) (C := RX4) (T := TX4) (N := 20) hx hb hts hin4 tyX4 tyX4_ok nmX4 hown hK hP hD hS 0 rfl rfl 0 (by decide) hf36 (fun _ h9 => h9) rfl (by decide +kernel) rfl rfl (Nat.le_of_ble_eq_true rfl) dX4_handle_13 (fun H locs hP hD hS => ?_)
    have hP : va_P D vwCl [(h0, .inr (4, [.int 1, .int (zb qq.1), .int qq.2.1, .int qq.2.2.1, .ref g1, .ref g2, .ref g3, .ref g4, .ref g5, .ref g6, .int (zb qq.2.2.2), .int (zb wi), .int (zb mo), .int mv, .int fr, .int sh, .int gr, .int cp, .int ra, .int rl])), (g4, .inl (cI, 17, .inl ki)), (g5, .inl (cI, 17, .inl na)), (g6, .inl (cI, 17, .inl ha))] H := hP
    have hD : va_D A [(h0, .inr (4, [.int 1, .int (zb qq.1), .int qq.2.1, .int qq.2.2.1, .ref g1, .ref g2, .ref g3, .ref g4, .ref g5, .ref g6, .int (zb qq.2.2.2), .int (zb wi), .int (zb mo), .int mv, .int fr, .int sh, .int gr, .int cp, .int ra, .int rl])), (g4, .inl (cI, 17, .inl ki)), (g5, .inl (cI, 17, .inl na)), (g6, .inl (cI, 17, .inl ha))] := hD
    refine lv_iconst (v := -1) hx hb dX4_handle_16 (by decide) ?_
    refine lv_istore_n (lv' := [(2, .int (-1)), (0, .ref h0), (1, .int p0)]) hx hb dX4_handle_17 rfl hl (by decide) rfl (fun ls hl => ?_)
    refine lv_iconst (v := 3) hx hb dX4_handle_18 (by decide) ?_
    refine lv_istore_n (lv' := [(3, .int 3), (2, .int (-1)), (0, .ref h0), (1, .int p0)]) hx hb dX4_handle_19 rfl hl (by decide) rfl (fun ls hl => ?_)
    exact L20 5 4 (-1) 3 1 (Nat.le_refl _) (by decide) rfl (by rw [if_pos (z_b0 c_5)]) (fun _ => rfl) (fun _ => rfl) H locs ls hP hD hS (lv_sub hl [2, 3, 1, 0] rfl)
  · skip
    refine lv_iconst (v := 0) hx hb dX4_handle_8 (by decide) ?_
    refine lv_goto (tgt := 13) hx hb dX4_handle_9 (by decide) ?_
    refine va_put (D := D) (ci := 4) (v := .int 0) (ty := .int) (C := RX4) (T := TX4) (N := 20) hx hb hts hin4 tyX4 tyX4_ok nmX4 hown hK hP hD hS 0 rfl rfl 0 (by decide) hf36 (fun _ h9 => h9) rfl (by decide +kernel) rfl rfl (Nat.le_of_ble_eq_true rfl) dX4_handle_13 (fun H locs hP hD hS => ?_)
    have hP : va_P D vwCl [(h0, .inr (4, [.int 0, .int (zb qq.1), .int qq.2.1, .int qq.2.2.1, .ref g1, .ref g2, .ref g3, .ref g4, .ref g5, .ref g6, .int (zb qq.2.2.2), .int (zb wi), .int (zb mo), .int mv, .int fr, .int sh, .int gr, .int cp, .int ra, .int rl])), (g4, .inl (cI, 17, .inl ki)), (g5, .inl (cI, 17, .inl na)), (g6, .inl (cI, 17, .inl ha))] H := hP
    have hD : va_D A [(h0, .inr (4, [.int 0, .int (zb qq.1), .int qq.2.1, .int qq.2.2.1, .ref g1, .ref g2, .ref g3, .ref g4, .ref g5, .ref g6, .int (zb qq.2.2.2), .int (zb wi), .int (zb mo), .int mv, .int fr, .int sh, .int gr, .int cp, .int ra, .int rl])), (g4, .inl (cI, 17, .inl ki)), (g5, .inl (cI, 17, .inl na)), (g6, .inl (cI, 17, .inl ha))] := hD
    refine lv_iconst (v := -1) hx hb dX4_handle_16 (by decide) ?_
    refine lv_istore_n (lv' := [(2, .int (-1)), (0, .ref h0), (1, .int p0)]) hx hb dX4_handle_17 rfl hl (by decide) rfl (fun ls hl => ?_)
    refine lv_iconst (v := 3) hx hb dX4_handle_18 (by decide) ?_
    refine lv_istore_n (lv' := [(3, .int 3), (2, .int (-1)), (0, .ref h0), (1, .int p0)]) hx hb dX4_handle_19 rfl hl (by decide) rfl (fun ls hl => ?_)
    exact L20 5 4 (-1) 3 0 (Nat.le_refl _) (by decide) rfl (by rw [if_neg (z_b1f c_5)]) (fun _ => rfl) (fun _ => rfl) H locs ls hP hD hS (lv_sub hl [2, 3, 1, 0] rfl)
theorem qd_X4_entry : yX4_entry.cls = RX4 ∧ yX4_entry.cls ≠ "java/lang/invoke/MethodHandle" ∧ yX4_entry.cls ≠ "java/lang/invoke/VarHandle" ∧ (parseMethodDescriptor yX4_entry.desc).map (fun d => d.parameters.length) = some 2 := by decide +kernel
set_option maxHeartbeats 400000 in
set_option maxRecDepth 100000 in
/-- entry -/
theorem c_X4_entry (l : Launch) (D : va_G) (cI : ClassId) (h0 : Nat) (g1 : Nat) (g2 : Nat) (g3 : Nat) (g4 : Nat) (g5 : Nat) (g6 : Nat) (code : Int32) (qq : zQ) (wi : Bool) (mo : Bool) (mv : Int32) (fr : Int32) (sh : Int32) (gr : Int32) (cp : Int32) (ra : Int32) (rl : Int32) (ow : zA) (ki : zA) (na : zA) (p0 : Int32) (p1 : Int32) (sz : Nat) (how : ∀ t, t < 48 → ∃ q, ow t = nI q ∧ q < 17) : Met l yX4_entry wsX4_entry ({ frames := 2, cells := 0, slots := 0, locals := 45 }) (z_Pw D cI [.ref h0, .int p0, .int p1] [(h0, .inr (4, [.int code, .int (zb qq.1), .int qq.2.1, .int qq.2.2.1, .ref g1, .ref g2, .ref g3, .ref g4, .ref g5, .ref g6, .int (zb qq.2.2.2), .int (zb wi), .int (zb mo), .int mv, .int fr, .int sh, .int gr, .int cp, .int ra, .int rl])), (g2, .inl (cI, 48, .inl ow)), (g4, .inl (cI, 17, .inl ki)), (g5, .inl (cI, 17, .inl na))] sz) (z_Wo D (some (.int ((m_entry qq ow ki na ra rl p0 p1).1))) [(h0, .inr (4, [.int ((m_entry qq ow ki na ra rl p0 p1).2.1), .int (zb qq.1), .int qq.2.1, .int qq.2.2.1, .ref g1, .ref g2, .ref g3, .ref g4, .ref g5, .ref g6, .int (zb qq.2.2.2), .int (zb wi), .int (zb mo), .int mv, .int fr, .int sh, .int gr, .int cp, .int ((m_entry qq ow ki na ra rl p0 p1).2.2.1), .int ((m_entry qq ow ki na ra rl p0 p1).2.2.2)])), (g2, .inl (cI, 48, .inl ow)), (g4, .inl (cI, 17, .inl ki)), (g5, .inl (cI, 17, .inl na))] (va_A [(h0, .inr (4, [.int code, .int (zb qq.1), .int qq.2.1, .int qq.2.2.1, .ref g1, .ref g2, .ref g3, .ref g4, .ref g5, .ref g6, .int (zb qq.2.2.2), .int (zb wi), .int (zb mo), .int mv, .int fr, .int sh, .int gr, .int cp, .int ra, .int rl])), (g2, .inl (cI, 48, .inl ow)), (g4, .inl (cI, 17, .inl ki)), (g5, .inl (cI, 17, .inl na))] sz)) 0 0 (va_A [(h0, .inr (4, [.int code, .int (zb qq.1), .int qq.2.1, .int qq.2.2.1, .ref g1, .ref g2, .ref g3, .ref g4, .ref g5, .ref g6, .int (zb qq.2.2.2), .int (zb wi), .int (zb mo), .int mv, .int fr, .int sh, .int gr, .int cp, .int ra, .int rl])), (g2, .inl (cI, 48, .inl ow)), (g4, .inl (cI, 17, .inl ki)), (g5, .inl (cI, 17, .inl na))] sz) := by
  refine Met.ofW (cc := cX4_entry) (maxL := 4) (ret := (some .int)) (by decide) rfl ?_
  intro p e s m args below meth c s₁ B hml hv
  obtain ⟨rfl, hsz, hP, hK, hD0⟩ := hv
  have hx := B.exec
  have hb := B.bytes
  have hr := B.returns
  have hts := atoms_spec (ws := wsX4_entry) B.pre
  have hown : s.vm.findClass RX4 = some m.cls := findClass_of_methodNamed B.named
  have hlocks := B.notSynchronized
  subst hsz
  have hD := hD0.self (sz := s.heap.size)
  generalize hAe : va_A [(h0, .inr (4, [.int code, .int (zb qq.1), .int qq.2.1, .int qq.2.2.1, .ref g1, .ref g2, .ref g3, .ref g4, .ref g5, .ref g6, .int (zb qq.2.2.2), .int (zb wi), .int (zb mo), .int mv, .int fr, .int sh, .int gr, .int cp, .int ra, .int rl])), (g2, .inl (cI, 48, .inl ow)), (g4, .inl (cI, 17, .inl ki)), (g5, .inl (cI, 17, .inl na))] s.heap.size = A at hD ⊢
  have hA : ∀ q : Nat, s.heap.size ≤ q → A q := fun q h => by rw [← hAe]; exact Or.inr h
  have hS : va_S A s.heap s.heap [] := va_S.rf
  have hP : va_P D vwCl [(h0, .inr (4, [.int code, .int (zb qq.1), .int qq.2.1, .int qq.2.2.1, .ref g1, .ref g2, .ref g3, .ref g4, .ref g5, .ref g6, .int (zb qq.2.2.2), .int (zb wi), .int (zb mo), .int mv, .int fr, .int sh, .int gr, .int cp, .int ra, .int rl])), (g2, .inl (cI, 48, .inl ow)), (g4, .inl (cI, 17, .inl ki)), (g5, .inl (cI, 17, .inl na))] s.heap := hP
  have hl := lv_entry ([.ref h0, .int p0, .int p1]) (n := 4) (Nat.le_of_ble_eq_true rfl)
  rw [lg_entry_eq]
  generalize (lg_sl ([.ref h0, .int p0, .int p1]) ++ List.replicate (4 - (lg_sl ([.ref h0, .int p0, .int p1])).length) Slot.unset).toArray = ls at hl ⊢
  have hl : lv_has ls 4 [(0, .ref h0), (1, .int p0), (2, .int p1)] := hl
  refine z_start hP hS (fun H locs hP hS => ?_)
  have hin4 : ∀ w ∈ wsX40, w ∈ wsX4_entry := by decide +kernel
  have hf7 := hts (.fieldLink RX4 7 "SqueezedVolumeModel" "on" "Z") (by decide +kernel)
  have hf36 := hts (.fieldLink RX4 36 "SqueezedVolumeModel" "code" "I") (by decide +kernel)
  have hf21 := hts (.fieldLink RX4 21 "SqueezedVolumeModel" "owner" "[I") (by decide +kernel)
  have hf63 := hts (.fieldLink RX4 63 "SqueezedVolumeModel" "runAt" "I") (by decide +kernel)
  have hf27 := hts (.fieldLink RX4 27 "SqueezedVolumeModel" "kind" "[I") (by decide +kernel)
  have hf56 := hts (.fieldLink RX4 56 "SqueezedVolumeModel" "runLength" "I") (by decide +kernel)
  have hf30 := hts (.fieldLink RX4 30 "SqueezedVolumeModel" "name" "[I") (by decide +kernel)
  refine lv_aload_n hx hb dX4_entry_0 rfl (lv_at hl 0 rfl) ?_
  refine lv_aload_n hx hb dX4_entry_1 rfl (lv_at hl 0 rfl) ?_
  refine va_get (D := D) (ci := 4) (v := .int (zb qq.1)) (C := RX4) (T := TX4) (N := 20) hx hb hts hin4 hown hK hP 0 rfl rfl 1 (by decide) hf7 (fun _ h9 => h9) rfl dX4_entry_2 ?_
  refine lv_if_ne (tgt := 12) hx hb dX4_entry_5 (by decide) (fun c_1 => ?_) (fun c_1 => ?_)
  · skip
    refine lv_iload_n hx hb dX4_entry_12 rfl (lv_at hl 2 rfl) ?_
    refine lv_if_lt (tgt := 21) hx hb dX4_entry_13 (by decide) (fun c_2 => ?_) (fun c_2 => ?_)
    · skip
      refine lv_iconst (v := 2) hx hb dX4_entry_21 (by decide) ?_
      refine lv_goto (tgt := 48) hx hb dX4_entry_22 (by decide) ?_
      refine va_put (D := D) (ci := 4) (v := .int 2) (ty := .int) (C := RX4) (T := TX4) (N := 20) hx hb hts hin4 tyX4 tyX4_ok nmX4 hown hK hP hD hS 0 rfl rfl 0 (by decide) hf36 (fun _ h9 => h9) rfl (by decide +kernel) rfl rfl (Nat.le_of_ble_eq_true rfl) dX4_entry_48 (fun H locs hP hD hS => ?_)
      have hP : va_P D vwCl [(h0, .inr (4, [.int 2, .int (zb qq.1), .int qq.2.1, .int qq.2.2.1, .ref g1, .ref g2, .ref g3, .ref g4, .ref g5, .ref g6, .int (zb qq.2.2.2), .int (zb wi), .int (zb mo), .int mv, .int fr, .int sh, .int gr, .int cp, .int ra, .int rl])), (g2, .inl (cI, 48, .inl ow)), (g4, .inl (cI, 17, .inl ki)), (g5, .inl (cI, 17, .inl na))] H := hP
      have hD : va_D A [(h0, .inr (4, [.int 2, .int (zb qq.1), .int qq.2.1, .int qq.2.2.1, .ref g1, .ref g2, .ref g3, .ref g4, .ref g5, .ref g6, .int (zb qq.2.2.2), .int (zb wi), .int (zb mo), .int mv, .int fr, .int sh, .int gr, .int cp, .int ra, .int rl])), (g2, .inl (cI, 48, .inl ow)), (g4, .inl (cI, 17, .inl ki)), (g5, .inl (cI, 17, .inl na))] := hD
      refine lv_aload_n hx hb dX4_entry_51 rfl (lv_at hl 0 rfl) ?_
      refine va_get (D := D) (ci := 4) (v := .int 2) (C := RX4) (T := TX4) (N := 20) hx hb hts hin4 hown hK hP 0 rfl rfl 0 (by decide) hf36 (fun _ h9 => h9) rfl dX4_entry_52 ?_
      refine lv_if_le (tgt := 60) hx hb dX4_entry_55 (by decide) (fun c_3 => ?_) (fun c_3 => ?_)
      · skip
        exact absurd c_3 (by decide)
      · skip
        refine lv_iconst (v := 0) hx hb dX4_entry_58 (by decide) ?_
        have hE : m_entry qq ow ki na ra rl p0 p1 = (0, 2, ra, rl) := by simp only [m_entry, if_neg (z_b1f c_1), if_pos c_2] <;> rfl
        have hPz : va_P D vwCl [(h0, .inr (4, [.int ((m_entry qq ow ki na ra rl p0 p1).2.1), .int (zb qq.1), .int qq.2.1, .int qq.2.2.1, .ref g1, .ref g2, .ref g3, .ref g4, .ref g5, .ref g6, .int (zb qq.2.2.2), .int (zb wi), .int (zb mo), .int mv, .int fr, .int sh, .int gr, .int cp, .int ((m_entry qq ow ki na ra rl p0 p1).2.2.1), .int ((m_entry qq ow ki na ra rl p0 p1).2.2.2)])), (g2, .inl (cI, 48, .inl ow)), (g4, .inl (cI, 17, .inl ki)), (g5, .inl (cI, 17, .inl na))] H := by rw [hE]; exact hP
        have hRr : 0 = (m_entry qq ow ki na ra rl p0 p1).1 := by first | (rw [hE]; done) | (rw [hE]; rfl)
        exact W.iret (v := 0) hx hb hr (fun t ht hW => ⟨⟨z_ret hRr, by rw [ht]; exact hPz⟩, hS.F ht⟩) hS.2.2 dX4_entry_59
    · skip
      refine lv_iload_n hx hb dX4_entry_16 rfl (lv_at hl 2 rfl) ?_
      refine lv_iconst (v := 3) hx hb dX4_entry_17 (by decide) ?_
      refine lv_icmp_le (tgt := 25) hx hb dX4_entry_18 (by decide) (fun c_4 => ?_) (fun c_4 => ?_)
      · skip
        refine lv_iload_n hx hb dX4_entry_25 rfl (lv_at hl 1 rfl) ?_
        refine lv_if_lt (tgt := 43) hx hb dX4_entry_26 (by decide) (fun c_5 => ?_) (fun c_5 => ?_)
        · skip
          refine lv_iconst (v := 3) hx hb dX4_entry_43 (by decide) ?_
          refine lv_goto (tgt := 48) hx hb dX4_entry_44 (by decide) ?_
          refine va_put (D := D) (ci := 4) (v := .int 3) (ty := .int) (C := RX4) (T := TX4) (N := 20) hx hb hts hin4 tyX4 tyX4_ok nmX4 hown hK hP hD hS 0 rfl rfl 0 (by decide) hf36 (fun _ h9 => h9) rfl (by decide +kernel) rfl rfl (Nat.le_of_ble_eq_true rfl) dX4_entry_48 (fun H locs hP hD hS => ?_)
          have hP : va_P D vwCl [(h0, .inr (4, [.int 3, .int (zb qq.1), .int qq.2.1, .int qq.2.2.1, .ref g1, .ref g2, .ref g3, .ref g4, .ref g5, .ref g6, .int (zb qq.2.2.2), .int (zb wi), .int (zb mo), .int mv, .int fr, .int sh, .int gr, .int cp, .int ra, .int rl])), (g2, .inl (cI, 48, .inl ow)), (g4, .inl (cI, 17, .inl ki)), (g5, .inl (cI, 17, .inl na))] H := hP
          have hD : va_D A [(h0, .inr (4, [.int 3, .int (zb qq.1), .int qq.2.1, .int qq.2.2.1, .ref g1, .ref g2, .ref g3, .ref g4, .ref g5, .ref g6, .int (zb qq.2.2.2), .int (zb wi), .int (zb mo), .int mv, .int fr, .int sh, .int gr, .int cp, .int ra, .int rl])), (g2, .inl (cI, 48, .inl ow)), (g4, .inl (cI, 17, .inl ki)), (g5, .inl (cI, 17, .inl na))] := hD
          refine lv_aload_n hx hb dX4_entry_51 rfl (lv_at hl 0 rfl) ?_
          refine va_get (D := D) (ci := 4) (v := .int 3) (C := RX4) (T := TX4) (N := 20) hx hb hts hin4 hown hK hP 0 rfl rfl 0 (by decide) hf36 (fun _ h9 => h9) rfl dX4_entry_52 ?_
          refine lv_if_le (tgt := 60) hx hb dX4_entry_55 (by decide) (fun c_6 => ?_) (fun c_6 => ?_)
          · skip
            exact absurd c_6 (by decide)
          · skip
            refine lv_iconst (v := 0) hx hb dX4_entry_58 (by decide) ?_
            have hE : m_entry qq ow ki na ra rl p0 p1 = (0, 3, ra, rl) := by simp only [m_entry, if_neg (z_b1f c_1), if_neg c_2, if_pos c_4, if_pos c_5] <;> rfl
            have hPz : va_P D vwCl [(h0, .inr (4, [.int ((m_entry qq ow ki na ra rl p0 p1).2.1), .int (zb qq.1), .int qq.2.1, .int qq.2.2.1, .ref g1, .ref g2, .ref g3, .ref g4, .ref g5, .ref g6, .int (zb qq.2.2.2), .int (zb wi), .int (zb mo), .int mv, .int fr, .int sh, .int gr, .int cp, .int ((m_entry qq ow ki na ra rl p0 p1).2.2.1), .int ((m_entry qq ow ki na ra rl p0 p1).2.2.2)])), (g2, .inl (cI, 48, .inl ow)), (g4, .inl (cI, 17, .inl ki)), (g5, .inl (cI, 17, .inl na))] H := by rw [hE]; exact hP
            have hRr : 0 = (m_entry qq ow ki na ra rl p0 p1).1 := by first | (rw [hE]; done) | (rw [hE]; rfl)
            exact W.iret (v := 0) hx hb hr (fun t ht hW => ⟨⟨z_ret hRr, by rw [ht]; exact hPz⟩, hS.F ht⟩) hS.2.2 dX4_entry_59
        · skip
          refine lv_iload_n hx hb dX4_entry_29 rfl (lv_at hl 1 rfl) ?_
          refine lv_bipush (v := 48) hx hb dX4_entry_30 (by decide) ?_
          refine lv_icmp_gt (tgt := 43) hx hb dX4_entry_32 (by decide) (fun c_7 => ?_) (fun c_7 => ?_)
          · skip
            refine lv_iconst (v := 3) hx hb dX4_entry_43 (by decide) ?_
            refine lv_goto (tgt := 48) hx hb dX4_entry_44 (by decide) ?_
            refine va_put (D := D) (ci := 4) (v := .int 3) (ty := .int) (C := RX4) (T := TX4) (N := 20) hx hb hts hin4 tyX4 tyX4_ok nmX4 hown hK hP hD hS 0 rfl rfl 0 (by decide) hf36 (fun _ h9 => h9) rfl (by decide +kernel) rfl rfl (Nat.le_of_ble_eq_true rfl) dX4_entry_48 (fun H locs hP hD hS => ?_)
            have hP : va_P D vwCl [(h0, .inr (4, [.int 3, .int (zb qq.1), .int qq.2.1, .int qq.2.2.1, .ref g1, .ref g2, .ref g3, .ref g4, .ref g5, .ref g6, .int (zb qq.2.2.2), .int (zb wi), .int (zb mo), .int mv, .int fr, .int sh, .int gr, .int cp, .int ra, .int rl])), (g2, .inl (cI, 48, .inl ow)), (g4, .inl (cI, 17, .inl ki)), (g5, .inl (cI, 17, .inl na))] H := hP
            have hD : va_D A [(h0, .inr (4, [.int 3, .int (zb qq.1), .int qq.2.1, .int qq.2.2.1, .ref g1, .ref g2, .ref g3, .ref g4, .ref g5, .ref g6, .int (zb qq.2.2.2), .int (zb wi), .int (zb mo), .int mv, .int fr, .int sh, .int gr, .int cp, .int ra, .int rl])), (g2, .inl (cI, 48, .inl ow)), (g4, .inl (cI, 17, .inl ki)), (g5, .inl (cI, 17, .inl na))] := hD
            refine lv_aload_n hx hb dX4_entry_51 rfl (lv_at hl 0 rfl) ?_
            refine va_get (D := D) (ci := 4) (v := .int 3) (C := RX4) (T := TX4) (N := 20) hx hb hts hin4 hown hK hP 0 rfl rfl 0 (by decide) hf36 (fun _ h9 => h9) rfl dX4_entry_52 ?_
            refine lv_if_le (tgt := 60) hx hb dX4_entry_55 (by decide) (fun c_8 => ?_) (fun c_8 => ?_)
            · skip
              exact absurd c_8 (by decide)
            · skip
              refine lv_iconst (v := 0) hx hb dX4_entry_58 (by decide) ?_
              have hE : m_entry qq ow ki na ra rl p0 p1 = (0, 3, ra, rl) := by simp only [m_entry, if_neg (z_b1f c_1), if_neg c_2, if_pos c_4, if_neg c_5, if_pos c_7] <;> rfl
              have hPz : va_P D vwCl [(h0, .inr (4, [.int ((m_entry qq ow ki na ra rl p0 p1).2.1), .int (zb qq.1), .int qq.2.1, .int qq.2.2.1, .ref g1, .ref g2, .ref g3, .ref g4, .ref g5, .ref g6, .int (zb qq.2.2.2), .int (zb wi), .int (zb mo), .int mv, .int fr, .int sh, .int gr, .int cp, .int ((m_entry qq ow ki na ra rl p0 p1).2.2.1), .int ((m_entry qq ow ki na ra rl p0 p1).2.2.2)])), (g2, .inl (cI, 48, .inl ow)), (g4, .inl (cI, 17, .inl ki)), (g5, .inl (cI, 17, .inl na))] H := by rw [hE]; exact hP
              have hRr : 0 = (m_entry qq ow ki na ra rl p0 p1).1 := by first | (rw [hE]; done) | (rw [hE]; rfl)
              exact W.iret (v := 0) hx hb hr (fun t ht hW => ⟨⟨z_ret hRr, by rw [ht]; exact hPz⟩, hS.F ht⟩) hS.2.2 dX4_entry_59
          · skip
            refine lv_aload_n hx hb dX4_entry_35 rfl (lv_at hl 0 rfl) ?_
            refine lv_iload_n hx hb dX4_entry_36 rfl (lv_at hl 1 rfl) ?_
            have hPc : va_P D vwCl [(h0, .inr (4, [.int code, .int (zb qq.1), .int qq.2.1, .int qq.2.2.1, .ref g1, .ref g2, .ref g3, .ref g4, .ref g5, .ref g6, .int (zb qq.2.2.2), .int (zb wi), .int (zb mo), .int mv, .int fr, .int sh, .int gr, .int cp, .int ra, .int rl])), (g2, .inl (cI, 48, .inl ow))] H := hP.sub [0, 1] rfl
            have hDc : va_D A [(h0, .inr (4, [.int code, .int (zb qq.1), .int qq.2.1, .int qq.2.2.1, .ref g1, .ref g2, .ref g3, .ref g4, .ref g5, .ref g6, .int (zb qq.2.2.2), .int (zb wi), .int (zb mo), .int mv, .int fr, .int sh, .int gr, .int cp, .int ra, .int rl])), (g2, .inl (cI, 48, .inl ow))] := hD.sub [0, 1] (by decide) rfl
            refine z_callWi (ws' := [(h0, .inr (4, [.int code, .int (zb qq.1), .int qq.2.1, .int qq.2.2.1, .ref g1, .ref g2, .ref g3, .ref g4, .ref g5, .ref g6, .int (zb qq.2.2.2), .int (zb wi), .int (zb mo), .int mv, .int fr, .int sh, .int gr, .int cp, .int ((m_runR ow p0).2.1), .int ((m_runR ow p0).2.2)])), (g2, .inl (cI, 48, .inl ow)), (g4, .inl (cI, 17, .inl ki)), (g5, .inl (cI, 17, .inl na))]) [0, 1] [2, 3] [(g4, .inl (cI, 17, .inl ki)), (g5, .inl (cI, 17, .inl na))] [h0, g2, g4, g5] (va_runV (As := [.int p0]) (rest := [.ref h0]) ⟨hx, hb, hml, hown, hts⟩ (c_X4_run l D cI h0 g1 g2 g3 g4 g5 g6 code qq wi mo mv fr sh gr cp ra rl ow p0 H.size) (cwV 1 hts gX4_entry_X4_run rfl rfl rfl qd_X4_run ⟨Nat.le_of_ble_eq_true rfl, Nat.le_of_ble_eq_true rfl⟩) ⟨z_Pw_blind, va_recv hK hP (ci := 4) (q0 := 0) rfl rfl, fun U hU hW => ⟨rfl, by rw [hU], by rw [hU]; exact hPc, va_K.moved hW.alike hK, hDc.weaken (fun _ _ _ _ => trivial)⟩⟩ rfl rfl hl.1 rfl (lv_room (Nat.le_of_ble_eq_true rfl)) dX4_entry_37 ⟨Nat.le_of_ble_eq_true rfl, Nat.le_of_ble_eq_true rfl⟩) hP hD hS hA ⟨rfl, rfl, rfl, rfl, rfl, rfl, rfl⟩ (fun H locs hP hD hS => ?_)
            generalize hs_9 : m_runR ow p0 = s_9 at hP hD ⊢
            refine lv_if_ne (tgt := 47) hx hb dX4_entry_40 (by decide) (fun c_10 => ?_) (fun c_10 => ?_)
            · skip
              refine lv_iconst (v := 0) hx hb dX4_entry_47 (by decide) ?_
              refine va_put (D := D) (ci := 4) (v := .int 0) (ty := .int) (C := RX4) (T := TX4) (N := 20) hx hb hts hin4 tyX4 tyX4_ok nmX4 hown hK hP hD hS 0 rfl rfl 0 (by decide) hf36 (fun _ h9 => h9) rfl (by decide +kernel) rfl rfl (Nat.le_of_ble_eq_true rfl) dX4_entry_48 (fun H locs hP hD hS => ?_)
              have hP : va_P D vwCl [(h0, .inr (4, [.int 0, .int (zb qq.1), .int qq.2.1, .int qq.2.2.1, .ref g1, .ref g2, .ref g3, .ref g4, .ref g5, .ref g6, .int (zb qq.2.2.2), .int (zb wi), .int (zb mo), .int mv, .int fr, .int sh, .int gr, .int cp, .int s_9.2.1, .int s_9.2.2])), (g2, .inl (cI, 48, .inl ow)), (g4, .inl (cI, 17, .inl ki)), (g5, .inl (cI, 17, .inl na))] H := hP
              have hD : va_D A [(h0, .inr (4, [.int 0, .int (zb qq.1), .int qq.2.1, .int qq.2.2.1, .ref g1, .ref g2, .ref g3, .ref g4, .ref g5, .ref g6, .int (zb qq.2.2.2), .int (zb wi), .int (zb mo), .int mv, .int fr, .int sh, .int gr, .int cp, .int s_9.2.1, .int s_9.2.2])), (g2, .inl (cI, 48, .inl ow)), (g4, .inl (cI, 17, .inl ki)), (g5, .inl (cI, 17, .inl na))] := hD
              refine lv_aload_n hx hb dX4_entry_51 rfl (lv_at hl 0 rfl) ?_
              refine va_get (D := D) (ci := 4) (v := .int 0) (C := RX4) (T := TX4) (N := 20) hx hb hts hin4 hown hK hP 0 rfl rfl 0 (by decide) hf36 (fun _ h9 => h9) rfl dX4_entry_52 ?_
              refine lv_if_le (tgt := 60) hx hb dX4_entry_55 (by decide) (fun c_11 => ?_) (fun c_11 => ?_)
              · skip
                refine lv_aload_n hx hb dX4_entry_60 rfl (lv_at hl 0 rfl) ?_
                refine va_get (D := D) (ci := 4) (v := .ref g2) (C := RX4) (T := TX4) (N := 20) hx hb hts hin4 hown hK hP 0 rfl rfl 5 (by decide) hf21 (fun _ h9 => h9) rfl dX4_entry_61 ?_
                refine lv_aload_n hx hb dX4_entry_64 rfl (lv_at hl 0 rfl) ?_
                refine va_get (D := D) (ci := 4) (v := .int s_9.2.1) (C := RX4) (T := TX4) (N := 20) hx hb hts hin4 hown hK hP 0 rfl rfl 18 (by decide) hf63 (fun _ h9 => h9) rfl dX4_entry_65 ?_
                refine va_iald hx hb hK hP 1 0 rfl rfl (z_ix (show s_9.2.1 = nI (m_at ow p0) by subst hs_9; rfl) (m_run_lt (by subst hs_9; exact z_b1 c_10)) (by decide)) dX4_entry_68 ?_
                refine W.eq (g2 := F0 m 69 ls [.int (ow (m_at ow p0))]) (by rw [z_ic (show s_9.2.1 = nI (m_at ow p0) by subst hs_9; rfl) (m_run_lt (by subst hs_9; exact z_b1 c_10)) (by decide)]) ?_
                refine lv_istore_n (lv' := [(3, .int (ow (m_at ow p0))), (0, .ref h0), (1, .int p0), (2, .int p1)]) hx hb dX4_entry_69 rfl hl (by decide) rfl (fun ls hl => ?_)
                refine lv_iload_n hx hb dX4_entry_70 rfl (lv_at hl 3 rfl) ?_
                by_cases q0 : p1 = 0
                · skip
                  refine lv_tableIn (off := 25) (tgt := 96) hx hb dX4_entry_71 (by rw [q0]; decide) (by rw [q0]; decide) (by rw [q0]; rfl) (by decide) ?_
                  refine lv_iload_n hx hb dX4_entry_96 rfl (lv_at hl 0 rfl) ?_
                  refine lv_if_ne (tgt := 104) hx hb dX4_entry_97 (by decide) (fun c_12 => ?_) (fun c_12 => ?_)
                  · skip
                    refine lv_aload_n hx hb dX4_entry_104 rfl (lv_at hl 1 rfl) ?_
                    refine va_get (D := D) (ci := 4) (v := .ref g4) (C := RX4) (T := TX4) (N := 20) hx hb hts hin4 hown hK hP 0 rfl rfl 7 (by decide) hf27 (fun _ h9 => h9) rfl dX4_entry_105 ?_
                    refine lv_iload_n hx hb dX4_entry_108 rfl (lv_at hl 0 rfl) ?_
                    refine va_iald hx hb hK hP 2 0 rfl rfl (m_ow_in how (m_run_lt (by subst hs_9; exact z_b1 c_10))) dX4_entry_109 ?_
                    have hE : m_entry qq ow ki na ra rl p0 p1 = (ki (ow (m_at ow p0)).toNatClampNeg, 0, s_9.2.1, s_9.2.2) := by subst hs_9; simp only [m_entry, if_neg (z_b1f c_1), if_neg c_2, if_pos c_4, if_neg c_5, if_neg c_7, if_neg (z_b1f c_10), if_pos q0, if_neg c_12] <;> rfl
                    have hPz : va_P D vwCl [(h0, .inr (4, [.int ((m_entry qq ow ki na ra rl p0 p1).2.1), .int (zb qq.1), .int qq.2.1, .int qq.2.2.1, .ref g1, .ref g2, .ref g3, .ref g4, .ref g5, .ref g6, .int (zb qq.2.2.2), .int (zb wi), .int (zb mo), .int mv, .int fr, .int sh, .int gr, .int cp, .int ((m_entry qq ow ki na ra rl p0 p1).2.2.1), .int ((m_entry qq ow ki na ra rl p0 p1).2.2.2)])), (g2, .inl (cI, 48, .inl ow)), (g4, .inl (cI, 17, .inl ki)), (g5, .inl (cI, 17, .inl na))] H := by rw [hE]; exact hP
                    have hRr : ki (ow (m_at ow p0)).toNatClampNeg = (m_entry qq ow ki na ra rl p0 p1).1 := by first | (rw [hE]; done) | (rw [hE]; rfl)
                    exact W.iret (v := ki (ow (m_at ow p0)).toNatClampNeg) hx hb hr (fun t ht hW => ⟨⟨z_ret hRr, by rw [ht]; exact hPz⟩, hS.F ht⟩) hS.2.2 dX4_entry_110
                  · skip
                    refine lv_iconst (v := 0) hx hb dX4_entry_100 (by decide) ?_
                    refine lv_goto (tgt := 110) hx hb dX4_entry_101 (by decide) ?_
                    have hE : m_entry qq ow ki na ra rl p0 p1 = (0, 0, s_9.2.1, s_9.2.2) := by subst hs_9; simp only [m_entry, if_neg (z_b1f c_1), if_neg c_2, if_pos c_4, if_neg c_5, if_neg c_7, if_neg (z_b1f c_10), if_pos q0, if_pos c_12] <;> rfl
                    have hPz : va_P D vwCl [(h0, .inr (4, [.int ((m_entry qq ow ki na ra rl p0 p1).2.1), .int (zb qq.1), .int qq.2.1, .int qq.2.2.1, .ref g1, .ref g2, .ref g3, .ref g4, .ref g5, .ref g6, .int (zb qq.2.2.2), .int (zb wi), .int (zb mo), .int mv, .int fr, .int sh, .int gr, .int cp, .int ((m_entry qq ow ki na ra rl p0 p1).2.2.1), .int ((m_entry qq ow ki na ra rl p0 p1).2.2.2)])), (g2, .inl (cI, 48, .inl ow)), (g4, .inl (cI, 17, .inl ki)), (g5, .inl (cI, 17, .inl na))] H := by rw [hE]; exact hP
                    have hRr : 0 = (m_entry qq ow ki na ra rl p0 p1).1 := by first | (rw [hE]; done) | (rw [hE]; rfl)
                    exact W.iret (v := 0) hx hb hr (fun t ht hW => ⟨⟨z_ret hRr, by rw [ht]; exact hPz⟩, hS.F ht⟩) hS.2.2 dX4_entry_110
                by_cases q1 : p1 = 1
                · skip
                  refine lv_tableIn (off := 40) (tgt := 111) hx hb dX4_entry_71 (by rw [q1]; decide) (by rw [q1]; decide) (by rw [q1]; rfl) (by decide) ?_
                  refine lv_aload_n hx hb dX4_entry_111 rfl (lv_at hl 1 rfl) ?_
                  refine va_get (D := D) (ci := 4) (v := .int s_9.2.1) (C := RX4) (T := TX4) (N := 20) hx hb hts hin4 hown hK hP 0 rfl rfl 18 (by decide) hf63 (fun _ h9 => h9) rfl dX4_entry_112 ?_
                  have hE : m_entry qq ow ki na ra rl p0 p1 = (s_9.2.1, 0, s_9.2.1, s_9.2.2) := by subst hs_9; simp only [m_entry, if_neg (z_b1f c_1), if_neg c_2, if_pos c_4, if_neg c_5, if_neg c_7, if_neg (z_b1f c_10), if_neg q0, if_pos q1] <;> rfl
                  have hPz : va_P D vwCl [(h0, .inr (4, [.int ((m_entry qq ow ki na ra rl p0 p1).2.1), .int (zb qq.1), .int qq.2.1, .int qq.2.2.1, .ref g1, .ref g2, .ref g3, .ref g4, .ref g5, .ref g6, .int (zb qq.2.2.2), .int (zb wi), .int (zb mo), .int mv, .int fr, .int sh, .int gr, .int cp, .int ((m_entry qq ow ki na ra rl p0 p1).2.2.1), .int ((m_entry qq ow ki na ra rl p0 p1).2.2.2)])), (g2, .inl (cI, 48, .inl ow)), (g4, .inl (cI, 17, .inl ki)), (g5, .inl (cI, 17, .inl na))] H := by rw [hE]; exact hP
                  have hRr : s_9.2.1 = (m_entry qq ow ki na ra rl p0 p1).1 := by first | (rw [hE]; done) | (rw [hE]; rfl)
                  exact W.iret (v := s_9.2.1) hx hb hr (fun t ht hW => ⟨⟨z_ret hRr, by rw [ht]; exact hPz⟩, hS.F ht⟩) hS.2.2 dX4_entry_115
                by_cases q2 : p1 = 2
                · skip
                  refine lv_tableIn (off := 45) (tgt := 116) hx hb dX4_entry_71 (by rw [q2]; decide) (by rw [q2]; decide) (by rw [q2]; rfl) (by decide) ?_
                  refine lv_aload_n hx hb dX4_entry_116 rfl (lv_at hl 1 rfl) ?_
                  refine va_get (D := D) (ci := 4) (v := .int s_9.2.2) (C := RX4) (T := TX4) (N := 20) hx hb hts hin4 hown hK hP 0 rfl rfl 19 (by decide) hf56 (fun _ h9 => h9) rfl dX4_entry_117 ?_
                  have hE : m_entry qq ow ki na ra rl p0 p1 = (s_9.2.2, 0, s_9.2.1, s_9.2.2) := by subst hs_9; simp only [m_entry, if_neg (z_b1f c_1), if_neg c_2, if_pos c_4, if_neg c_5, if_neg c_7, if_neg (z_b1f c_10), if_neg q0, if_neg q1, if_pos q2] <;> rfl
                  have hPz : va_P D vwCl [(h0, .inr (4, [.int ((m_entry qq ow ki na ra rl p0 p1).2.1), .int (zb qq.1), .int qq.2.1, .int qq.2.2.1, .ref g1, .ref g2, .ref g3, .ref g4, .ref g5, .ref g6, .int (zb qq.2.2.2), .int (zb wi), .int (zb mo), .int mv, .int fr, .int sh, .int gr, .int cp, .int ((m_entry qq ow ki na ra rl p0 p1).2.2.1), .int ((m_entry qq ow ki na ra rl p0 p1).2.2.2)])), (g2, .inl (cI, 48, .inl ow)), (g4, .inl (cI, 17, .inl ki)), (g5, .inl (cI, 17, .inl na))] H := by rw [hE]; exact hP
                  have hRr : s_9.2.2 = (m_entry qq ow ki na ra rl p0 p1).1 := by first | (rw [hE]; done) | (rw [hE]; rfl)
                  exact W.iret (v := s_9.2.2) hx hb hr (fun t ht hW => ⟨⟨z_ret hRr, by rw [ht]; exact hPz⟩, hS.F ht⟩) hS.2.2 dX4_entry_120
                refine lv_tableOut (tgt := 121) hx hb dX4_entry_71 (v_swo q0 q1 q2) (by decide) ?_
                refine lv_iload_n hx hb dX4_entry_121 rfl (lv_at hl 0 rfl) ?_
                refine lv_if_ne (tgt := 129) hx hb dX4_entry_122 (by decide) (fun c_13 => ?_) (fun c_13 => ?_)
                · skip
                  refine lv_aload_n hx hb dX4_entry_129 rfl (lv_at hl 1 rfl) ?_
                  refine va_get (D := D) (ci := 4) (v := .ref g5) (C := RX4) (T := TX4) (N := 20) hx hb hts hin4 hown hK hP 0 rfl rfl 8 (by decide) hf30 (fun _ h9 => h9) rfl dX4_entry_130 ?_
                  refine lv_iload_n hx hb dX4_entry_133 rfl (lv_at hl 0 rfl) ?_
                  refine va_iald hx hb hK hP 3 0 rfl rfl (m_ow_in how (m_run_lt (by subst hs_9; exact z_b1 c_10))) dX4_entry_134 ?_
                  have hE : m_entry qq ow ki na ra rl p0 p1 = (na (ow (m_at ow p0)).toNatClampNeg, 0, s_9.2.1, s_9.2.2) := by subst hs_9; simp only [m_entry, if_neg (z_b1f c_1), if_neg c_2, if_pos c_4, if_neg c_5, if_neg c_7, if_neg (z_b1f c_10), if_neg q0, if_neg q1, if_neg q2, if_neg c_13] <;> rfl
                  have hPz : va_P D vwCl [(h0, .inr (4, [.int ((m_entry qq ow ki na ra rl p0 p1).2.1), .int (zb qq.1), .int qq.2.1, .int qq.2.2.1, .ref g1, .ref g2, .ref g3, .ref g4, .ref g5, .ref g6, .int (zb qq.2.2.2), .int (zb wi), .int (zb mo), .int mv, .int fr, .int sh, .int gr, .int cp, .int ((m_entry qq ow ki na ra rl p0 p1).2.2.1), .int ((m_entry qq ow ki na ra rl p0 p1).2.2.2)])), (g2, .inl (cI, 48, .inl ow)), (g4, .inl (cI, 17, .inl ki)), (g5, .inl (cI, 17, .inl na))] H := by rw [hE]; exact hP
                  have hRr : na (ow (m_at ow p0)).toNatClampNeg = (m_entry qq ow ki na ra rl p0 p1).1 := by first | (rw [hE]; done) | (rw [hE]; rfl)
                  exact W.iret (v := na (ow (m_at ow p0)).toNatClampNeg) hx hb hr (fun t ht hW => ⟨⟨z_ret hRr, by rw [ht]; exact hPz⟩, hS.F ht⟩) hS.2.2 dX4_entry_135
                · skip
                  refine lv_iconst (v := 0) hx hb dX4_entry_125 (by decide) ?_
                  refine lv_goto (tgt := 135) hx hb dX4_entry_126 (by decide) ?_
                  have hE : m_entry qq ow ki na ra rl p0 p1 = (0, 0, s_9.2.1, s_9.2.2) := by subst hs_9; simp only [m_entry, if_neg (z_b1f c_1), if_neg c_2, if_pos c_4, if_neg c_5, if_neg c_7, if_neg (z_b1f c_10), if_neg q0, if_neg q1, if_neg q2, if_pos c_13] <;> rfl
                  have hPz : va_P D vwCl [(h0, .inr (4, [.int ((m_entry qq ow ki na ra rl p0 p1).2.1), .int (zb qq.1), .int qq.2.1, .int qq.2.2.1, .ref g1, .ref g2, .ref g3, .ref g4, .ref g5, .ref g6, .int (zb qq.2.2.2), .int (zb wi), .int (zb mo), .int mv, .int fr, .int sh, .int gr, .int cp, .int ((m_entry qq ow ki na ra rl p0 p1).2.2.1), .int ((m_entry qq ow ki na ra rl p0 p1).2.2.2)])), (g2, .inl (cI, 48, .inl ow)), (g4, .inl (cI, 17, .inl ki)), (g5, .inl (cI, 17, .inl na))] H := by rw [hE]; exact hP
                  have hRr : 0 = (m_entry qq ow ki na ra rl p0 p1).1 := by first | (rw [hE]; done) | (rw [hE]; rfl)
                  exact W.iret (v := 0) hx hb hr (fun t ht hW => ⟨⟨z_ret hRr, by rw [ht]; exact hPz⟩, hS.F ht⟩) hS.2.2 dX4_entry_135
              · skip
                exact absurd (by decide) c_11
            · skip
              refine lv_iconst (v := 3) hx hb dX4_entry_43 (by decide) ?_
              refine lv_goto (tgt := 48) hx hb dX4_entry_44 (by decide) ?_
              refine va_put (D := D) (ci := 4) (v := .int 3) (ty := .int) (C := RX4) (T := TX4) (N := 20) hx hb hts hin4 tyX4 tyX4_ok nmX4 hown hK hP hD hS 0 rfl rfl 0 (by decide) hf36 (fun _ h9 => h9) rfl (by decide +kernel) rfl rfl (Nat.le_of_ble_eq_true rfl) dX4_entry_48 (fun H locs hP hD hS => ?_)
              have hP : va_P D vwCl [(h0, .inr (4, [.int 3, .int (zb qq.1), .int qq.2.1, .int qq.2.2.1, .ref g1, .ref g2, .ref g3, .ref g4, .ref g5, .ref g6, .int (zb qq.2.2.2), .int (zb wi), .int (zb mo), .int mv, .int fr, .int sh, .int gr, .int cp, .int s_9.2.1, .int s_9.2.2])), (g2, .inl (cI, 48, .inl ow)), (g4, .inl (cI, 17, .inl ki)), (g5, .inl (cI, 17, .inl na))] H := hP
              have hD : va_D A [(h0, .inr (4, [.int 3, .int (zb qq.1), .int qq.2.1, .int qq.2.2.1, .ref g1, .ref g2, .ref g3, .ref g4, .ref g5, .ref g6, .int (zb qq.2.2.2), .int (zb wi), .int (zb mo), .int mv, .int fr, .int sh, .int gr, .int cp, .int s_9.2.1, .int s_9.2.2])), (g2, .inl (cI, 48, .inl ow)), (g4, .inl (cI, 17, .inl ki)), (g5, .inl (cI, 17, .inl na))] := hD
              refine lv_aload_n hx hb dX4_entry_51 rfl (lv_at hl 0 rfl) ?_
              refine va_get (D := D) (ci := 4) (v := .int 3) (C := RX4) (T := TX4) (N := 20) hx hb hts hin4 hown hK hP 0 rfl rfl 0 (by decide) hf36 (fun _ h9 => h9) rfl dX4_entry_52 ?_
              refine lv_if_le (tgt := 60) hx hb dX4_entry_55 (by decide) (fun c_14 => ?_) (fun c_14 => ?_)
              · skip
                exact absurd c_14 (by decide)
              · skip
                refine lv_iconst (v := 0) hx hb dX4_entry_58 (by decide) ?_
                have hE : m_entry qq ow ki na ra rl p0 p1 = (0, 3, s_9.2.1, s_9.2.2) := by subst hs_9; simp only [m_entry, if_neg (z_b1f c_1), if_neg c_2, if_pos c_4, if_neg c_5, if_neg c_7, if_pos (z_b0 c_10)] <;> rfl
                have hPz : va_P D vwCl [(h0, .inr (4, [.int ((m_entry qq ow ki na ra rl p0 p1).2.1), .int (zb qq.1), .int qq.2.1, .int qq.2.2.1, .ref g1, .ref g2, .ref g3, .ref g4, .ref g5, .ref g6, .int (zb qq.2.2.2), .int (zb wi), .int (zb mo), .int mv, .int fr, .int sh, .int gr, .int cp, .int ((m_entry qq ow ki na ra rl p0 p1).2.2.1), .int ((m_entry qq ow ki na ra rl p0 p1).2.2.2)])), (g2, .inl (cI, 48, .inl ow)), (g4, .inl (cI, 17, .inl ki)), (g5, .inl (cI, 17, .inl na))] H := by rw [hE]; exact hP
                have hRr : 0 = (m_entry qq ow ki na ra rl p0 p1).1 := by first | (rw [hE]; done) | (rw [hE]; rfl)
                exact W.iret (v := 0) hx hb hr (fun t ht hW => ⟨⟨z_ret hRr, by rw [ht]; exact hPz⟩, hS.F ht⟩) hS.2.2 dX4_entry_59
      · skip
        refine lv_iconst (v := 2) hx hb dX4_entry_21 (by decide) ?_
        refine lv_goto (tgt := 48) hx hb dX4_entry_22 (by decide) ?_
        refine va_put (D := D) (ci := 4) (v := .int 2) (ty := .int) (C := RX4) (T := TX4) (N := 20) hx hb hts hin4 tyX4 tyX4_ok nmX4 hown hK hP hD hS 0 rfl rfl 0 (by decide) hf36 (fun _ h9 => h9) rfl (by decide +kernel) rfl rfl (Nat.le_of_ble_eq_true rfl) dX4_entry_48 (fun H locs hP hD hS => ?_)
        have hP : va_P D vwCl [(h0, .inr (4, [.int 2, .int (zb qq.1), .int qq.2.1, .int qq.2.2.1, .ref g1, .ref g2, .ref g3, .ref g4, .ref g5, .ref g6, .int (zb qq.2.2.2), .int (zb wi), .int (zb mo), .int mv, .int fr, .int sh, .int gr, .int cp, .int ra, .int rl])), (g2, .inl (cI, 48, .inl ow)), (g4, .inl (cI, 17, .inl ki)), (g5, .inl (cI, 17, .inl na))] H := hP
        have hD : va_D A [(h0, .inr (4, [.int 2, .int (zb qq.1), .int qq.2.1, .int qq.2.2.1, .ref g1, .ref g2, .ref g3, .ref g4, .ref g5, .ref g6, .int (zb qq.2.2.2), .int (zb wi), .int (zb mo), .int mv, .int fr, .int sh, .int gr, .int cp, .int ra, .int rl])), (g2, .inl (cI, 48, .inl ow)), (g4, .inl (cI, 17, .inl ki)), (g5, .inl (cI, 17, .inl na))] := hD
        refine lv_aload_n hx hb dX4_entry_51 rfl (lv_at hl 0 rfl) ?_
        refine va_get (D := D) (ci := 4) (v := .int 2) (C := RX4) (T := TX4) (N := 20) hx hb hts hin4 hown hK hP 0 rfl rfl 0 (by decide) hf36 (fun _ h9 => h9) rfl dX4_entry_52 ?_
        refine lv_if_le (tgt := 60) hx hb dX4_entry_55 (by decide) (fun c_15 => ?_) (fun c_15 => ?_)
        · skip
          exact absurd c_15 (by decide)
        · skip
          refine lv_iconst (v := 0) hx hb dX4_entry_58 (by decide) ?_
          have hE : m_entry qq ow ki na ra rl p0 p1 = (0, 2, ra, rl) := by simp only [m_entry, if_neg (z_b1f c_1), if_neg c_2, if_neg c_4] <;> rfl
          have hPz : va_P D vwCl [(h0, .inr (4, [.int ((m_entry qq ow ki na ra rl p0 p1).2.1), .int (zb qq.1), .int qq.2.1, .int qq.2.2.1, .ref g1, .ref g2, .ref g3, .ref g4, .ref g5, .ref g6, .int (zb qq.2.2.2), .int (zb wi), .int (zb mo), .int mv, .int fr, .int sh, .int gr, .int cp, .int ((m_entry qq ow ki na ra rl p0 p1).2.2.1), .int ((m_entry qq ow ki na ra rl p0 p1).2.2.2)])), (g2, .inl (cI, 48, .inl ow)), (g4, .inl (cI, 17, .inl ki)), (g5, .inl (cI, 17, .inl na))] H := by rw [hE]; exact hP
          have hRr : 0 = (m_entry qq ow ki na ra rl p0 p1).1 := by first | (rw [hE]; done) | (rw [hE]; rfl)
          exact W.iret (v := 0) hx hb hr (fun t ht hW => ⟨⟨z_ret hRr, by rw [ht]; exact hPz⟩, hS.F ht⟩) hS.2.2 dX4_entry_59
  · skip
    refine lv_iconst (v := 1) hx hb dX4_entry_8 (by decide) ?_
    refine lv_goto (tgt := 48) hx hb dX4_entry_9 (by decide) ?_
    refine va_put (D := D) (ci := 4) (v := .int 1) (ty := .int) (C := RX4) (T := TX4) (N := 20) hx hb hts hin4 tyX4 tyX4_ok nmX4 hown hK hP hD hS 0 rfl rfl 0 (by decide) hf36 (fun _ h9 => h9) rfl (by decide +kernel) rfl rfl (Nat.le_of_ble_eq_true rfl) dX4_entry_48 (fun H locs hP hD hS => ?_)
    have hP : va_P D vwCl [(h0, .inr (4, [.int 1, .int (zb qq.1), .int qq.2.1, .int qq.2.2.1, .ref g1, .ref g2, .ref g3, .ref g4, .ref g5, .ref g6, .int (zb qq.2.2.2), .int (zb wi), .int (zb mo), .int mv, .int fr, .int sh, .int gr, .int cp, .int ra, .int rl])), (g2, .inl (cI, 48, .inl ow)), (g4, .inl (cI, 17, .inl ki)), (g5, .inl (cI, 17, .inl na))] H := hP
    have hD : va_D A [(h0, .inr (4, [.int 1, .int (zb qq.1), .int qq.2.1, .int qq.2.2.1, .ref g1, .ref g2, .ref g3, .ref g4, .ref g5, .ref g6, .int (zb qq.2.2.2), .int (zb wi), .int (zb mo), .int mv, .int fr, .int sh, .int gr, .int cp, .int ra, .int rl])), (g2, .inl (cI, 48, .inl ow)), (g4, .inl (cI, 17, .inl ki)), (g5, .inl (cI, 17, .inl na))] := hD
    refine lv_aload_n hx hb dX4_entry_51 rfl (lv_at hl 0 rfl) ?_
    refine va_get (D := D) (ci := 4) (v := .int 1) (C := RX4) (T := TX4) (N := 20) hx hb hts hin4 hown hK hP 0 rfl rfl 0 (by decide) hf36 (fun _ h9 => h9) rfl dX4_entry_52 ?_
    refine lv_if_le (tgt := 60) hx hb dX4_entry_55 (by decide) (fun c_16 => ?_) (fun c_16 => ?_)
    · skip
      exact absurd c_16 (by decide)
    · skip
      refine lv_iconst (v := 0) hx hb dX4_entry_58 (by decide) ?_
      have hE : m_entry qq ow ki na ra rl p0 p1 = (0, 1, ra, rl) := by simp only [m_entry, if_pos (z_b0 c_1)] <;> rfl
      have hPz : va_P D vwCl [(h0, .inr (4, [.int ((m_entry qq ow ki na ra rl p0 p1).2.1), .int (zb qq.1), .int qq.2.1, .int qq.2.2.1, .ref g1, .ref g2, .ref g3, .ref g4, .ref g5, .ref g6, .int (zb qq.2.2.2), .int (zb wi), .int (zb mo), .int mv, .int fr, .int sh, .int gr, .int cp, .int ((m_entry qq ow ki na ra rl p0 p1).2.2.1), .int ((m_entry qq ow ki na ra rl p0 p1).2.2.2)])), (g2, .inl (cI, 48, .inl ow)), (g4, .inl (cI, 17, .inl ki)), (g5, .inl (cI, 17, .inl na))] H := by rw [hE]; exact hP
      have hRr : 0 = (m_entry qq ow ki na ra rl p0 p1).1 := by first | (rw [hE]; done) | (rw [hE]; rfl)
      exact W.iret (v := 0) hx hb hr (fun t ht hW => ⟨⟨z_ret hRr, by rw [ht]; exact hPz⟩, hS.F ht⟩) hS.2.2 dX4_entry_59
