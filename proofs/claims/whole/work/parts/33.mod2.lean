theorem qd_X4_giveUp : yX4_giveUp.cls = RX4 ∧ yX4_giveUp.cls ≠ "java/lang/invoke/MethodHandle" ∧ yX4_giveUp.cls ≠ "java/lang/invoke/VarHandle" ∧ (parseMethodDescriptor yX4_giveUp.desc).map (fun d => d.parameters.length) = some 2 := by decide +kernel
set_option maxHeartbeats 400000 in
set_option maxRecDepth 100000 in
/-- giveUp -/
theorem c_X4_giveUp (l : Launch) (D : va_G) (cI : ClassId) (h0 : Nat) (g1 : Nat) (g2 : Nat) (g3 : Nat) (g4 : Nat) (g5 : Nat) (g6 : Nat) (code : Int32) (qq : zQ) (wi : Bool) (mo : Bool) (mv : Int32) (fr : Int32) (sh : Int32) (gr : Int32) (cp : Int32) (ra : Int32) (rl : Int32) (ow : zA) (nx : zA) (p0 : Int32) (p1 : Int32) (sz : Nat) : Met l yX4_giveUp wsX4_giveUp ({ frames := 0, cells := 0, slots := 0, locals := 0 }) (z_Pw D cI [.ref h0, .int p0, .int p1] [(h0, .inr (4, [.int code, .int (zb qq.1), .int qq.2.1, .int qq.2.2.1, .ref g1, .ref g2, .ref g3, .ref g4, .ref g5, .ref g6, .int (zb qq.2.2.2), .int (zb wi), .int (zb mo), .int mv, .int fr, .int sh, .int gr, .int cp, .int ra, .int rl])), (g2, .inl (cI, 48, .inl ow)), (g3, .inl (cI, 48, .inl nx))] sz) (z_Wo D none [(h0, .inr (4, [.int code, .int (zb qq.1), .int qq.2.1, .int qq.2.2.1, .ref g1, .ref g2, .ref g3, .ref g4, .ref g5, .ref g6, .int (zb qq.2.2.2), .int (zb wi), .int (zb mo), .int mv, .int fr, .int sh, .int gr, .int cp, .int ra, .int rl])), (g2, .inl (cI, 48, .inl ow)), (g3, .inl (cI, 48, .inl (m_gv ow nx p0 p1)))] (va_A [(h0, .inr (4, [.int code, .int (zb qq.1), .int qq.2.1, .int qq.2.2.1, .ref g1, .ref g2, .ref g3, .ref g4, .ref g5, .ref g6, .int (zb qq.2.2.2), .int (zb wi), .int (zb mo), .int mv, .int fr, .int sh, .int gr, .int cp, .int ra, .int rl])), (g2, .inl (cI, 48, .inl ow)), (g3, .inl (cI, 48, .inl nx))] sz)) 0 0 (va_A [(h0, .inr (4, [.int code, .int (zb qq.1), .int qq.2.1, .int qq.2.2.1, .ref g1, .ref g2, .ref g3, .ref g4, .ref g5, .ref g6, .int (zb qq.2.2.2), .int (zb wi), .int (zb mo), .int mv, .int fr, .int sh, .int gr, .int cp, .int ra, .int rl])), (g2, .inl (cI, 48, .inl ow)), (g3, .inl (cI, 48, .inl nx))] sz) := by
  refine Met.ofW (cc := cX4_giveUp) (maxL := 6) (ret := none) (by decide) rfl ?_
  intro p e s m args below meth c s₁ B hml hv
  obtain ⟨rfl, hsz, hP, hK, hD0⟩ := hv
  have hx := B.exec
  have hb := B.bytes
  have hr := B.returns
  have hts := atoms_spec (ws := wsX4_giveUp) B.pre
  have hown : s.vm.findClass RX4 = some m.cls := findClass_of_methodNamed B.named
  have hlocks := B.notSynchronized
  subst hsz
  have hD := hD0.self (sz := s.heap.size)
  generalize hAe : va_A [(h0, .inr (4, [.int code, .int (zb qq.1), .int qq.2.1, .int qq.2.2.1, .ref g1, .ref g2, .ref g3, .ref g4, .ref g5, .ref g6, .int (zb qq.2.2.2), .int (zb wi), .int (zb mo), .int mv, .int fr, .int sh, .int gr, .int cp, .int ra, .int rl])), (g2, .inl (cI, 48, .inl ow)), (g3, .inl (cI, 48, .inl nx))] s.heap.size = A at hD ⊢
  have hA : ∀ q : Nat, s.heap.size ≤ q → A q := fun q h => by rw [← hAe]; exact Or.inr h
  have hS : va_S A s.heap s.heap [] := va_S.rf
  have hP : va_P D vwCl [(h0, .inr (4, [.int code, .int (zb qq.1), .int qq.2.1, .int qq.2.2.1, .ref g1, .ref g2, .ref g3, .ref g4, .ref g5, .ref g6, .int (zb qq.2.2.2), .int (zb wi), .int (zb mo), .int mv, .int fr, .int sh, .int gr, .int cp, .int ra, .int rl])), (g2, .inl (cI, 48, .inl ow)), (g3, .inl (cI, 48, .inl nx))] s.heap := hP
  have hl := lv_entry ([.ref h0, .int p0, .int p1]) (n := 6) (Nat.le_of_ble_eq_true rfl)
  rw [lg_entry_eq]
  generalize (lg_sl ([.ref h0, .int p0, .int p1]) ++ List.replicate (6 - (lg_sl ([.ref h0, .int p0, .int p1])).length) Slot.unset).toArray = ls at hl ⊢
  have hl : lv_has ls 6 [(0, .ref h0), (1, .int p0), (2, .int p1)] := hl
  refine z_start hP hS (fun H locs hP hS => ?_)
  have hin4 : ∀ w ∈ wsX40, w ∈ wsX4_giveUp := by decide +kernel
  have hf21 := hts (.fieldLink RX4 21 "SqueezedVolumeModel" "owner" "[I") (by decide +kernel)
  have hf24 := hts (.fieldLink RX4 24 "SqueezedVolumeModel" "next" "[I") (by decide +kernel)
  have L5 : ∀ (k : Nat) (j : Nat) (x4 : Int32) (x3 : Int32) (nx1 : zA), (j ≤ 48) → (48 + 1 ≤ j + k) → (x4 = nI j) → (x3 = m_cnt ow p0 j) → (nx1 = m_gvF ow nx p0 p1 j) → ∀ (H : Heap) (locs : List Loc) (ls : Array Slot), va_P D vwCl [(h0, .inr (4, [.int code, .int (zb qq.1), .int qq.2.1, .int qq.2.2.1, .ref g1, .ref g2, .ref g3, .ref g4, .ref g5, .ref g6, .int (zb qq.2.2.2), .int (zb wi), .int (zb mo), .int mv, .int fr, .int sh, .int gr, .int cp, .int ra, .int rl])), (g2, .inl (cI, 48, .inl ow)), (g3, .inl (cI, 48, .inl nx1))] H → va_D A [(h0, .inr (4, [.int code, .int (zb qq.1), .int qq.2.1, .int qq.2.2.1, .ref g1, .ref g2, .ref g3, .ref g4, .ref g5, .ref g6, .int (zb qq.2.2.2), .int (zb wi), .int (zb mo), .int mv, .int fr, .int sh, .int gr, .int cp, .int ra, .int rl])), (g2, .inl (cI, 48, .inl ow)), (g3, .inl (cI, 48, .inl nx1))] → va_S A s.heap H locs → lv_has ls 6 [(0, .ref h0), (1, .int p0), (2, .int p1), (3, .int x3), (4, .int x4)] → W p l e ({ frames := 0, cells := 0, slots := 0, locals := 0 }) s m ([.ref h0, .int p0, .int p1] : List Value).toArray below meth c H locs 0 0 (MQ below (z_Wo D none [(h0, .inr (4, [.int code, .int (zb qq.1), .int qq.2.1, .int qq.2.2.1, .ref g1, .ref g2, .ref g3, .ref g4, .ref g5, .ref g6, .int (zb qq.2.2.2), .int (zb wi), .int (zb mo), .int mv, .int fr, .int sh, .int gr, .int cp, .int ra, .int rl])), (g2, .inl (cI, 48, .inl ow)), (g3, .inl (cI, 48, .inl (m_gv ow nx p0 p1)))] A) ([.ref h0, .int p0, .int p1] : List Value).toArray s 0 0 A) (F0 m 5 ls []) := by
    intro k
    induction k with
    | zero =>
      intro j x4 x3 nx1 hj hk ex4 ex3 ef
      exfalso; omega
    | succ k ih =>
      intro j x4 x3 nx1 hj hk ex4 ex3 ef
      intro H locs ls hP hD hS hl
      refine lv_iload hx hb dX4_giveUp_5 (lv_at hl 4 rfl) ?_
      refine lv_bipush (v := 48) hx hb dX4_giveUp_7 (by decide) ?_
      refine lv_icmp_ge (tgt := 77) hx hb dX4_giveUp_9 (by decide) (fun c_1 => ?_) (fun c_1 => ?_)
      · skip
        have hE : m_gv ow nx p0 p1 = nx1 := by rw [ef, z48_e hj ex4 c_1]; rfl
        have hPz : va_P D vwCl [(h0, .inr (4, [.int code, .int (zb qq.1), .int qq.2.1, .int qq.2.2.1, .ref g1, .ref g2, .ref g3, .ref g4, .ref g5, .ref g6, .int (zb qq.2.2.2), .int (zb wi), .int (zb mo), .int mv, .int fr, .int sh, .int gr, .int cp, .int ra, .int rl])), (g2, .inl (cI, 48, .inl ow)), (g3, .inl (cI, 48, .inl (m_gv ow nx p0 p1)))] H := by rw [hE]; exact hP
        exact W.vret hx hb hr (fun t ht hW => ⟨⟨rfl, by rw [ht]; exact hPz⟩, hS.F ht⟩) hS.2.2 dX4_giveUp_77
      · skip
        refine lv_aload_n hx hb dX4_giveUp_12 rfl (lv_at hl 0 rfl) ?_
        refine va_get (D := D) (ci := 4) (v := .ref g2) (C := RX4) (T := TX4) (N := 20) hx hb hts hin4 hown hK hP 0 rfl rfl 5 (by decide) hf21 (fun _ h9 => h9) rfl dX4_giveUp_13 ?_
        refine lv_iload hx hb dX4_giveUp_16 (lv_at hl 4 rfl) ?_
        refine va_iald hx hb hK hP 1 0 rfl rfl (z_ix ex4 (z48_s hj ex4 c_1) (by decide)) dX4_giveUp_18 ?_
        refine W.eq (g2 := F0 m 19 ls [.int (ow j)]) (by rw [z_ic ex4 (z48_s hj ex4 c_1) (by decide)]) ?_
        refine lv_iload_n hx hb dX4_giveUp_19 rfl (lv_at hl 1 rfl) ?_
        refine lv_icmp_ne (tgt := 27) hx hb dX4_giveUp_20 (by decide) (fun c_2 => ?_) (fun c_2 => ?_)
        · skip
          refine lv_iconst (v := 0) hx hb dX4_giveUp_27 (by decide) ?_
          refine lv_istore (lv' := [(5, .int 0), (0, .ref h0), (1, .int p0), (2, .int p1), (3, .int x3), (4, .int x4)]) hx hb dX4_giveUp_28 hl (by decide) rfl (fun ls hl => ?_)
          refine lv_aload_n hx hb dX4_giveUp_30 rfl (lv_at hl 1 rfl) ?_
          refine va_get (D := D) (ci := 4) (v := .ref g3) (C := RX4) (T := TX4) (N := 20) hx hb hts hin4 hown hK hP 0 rfl rfl 6 (by decide) hf24 (fun _ h9 => h9) rfl dX4_giveUp_31 ?_
          refine lv_iload hx hb dX4_giveUp_34 (lv_at hl 5 rfl) ?_
          refine lv_iload hx hb dX4_giveUp_36 (lv_at hl 0 rfl) ?_
          refine lv_if_eq (tgt := 50) hx hb dX4_giveUp_38 (by decide) (fun c_3 => ?_) (fun c_3 => ?_)
          · skip
            refine lv_aload_n hx hb dX4_giveUp_50 rfl (lv_at hl 1 rfl) ?_
            refine va_get (D := D) (ci := 4) (v := .ref g3) (C := RX4) (T := TX4) (N := 20) hx hb hts hin4 hown hK hP 0 rfl rfl 6 (by decide) hf24 (fun _ h9 => h9) rfl dX4_giveUp_51 ?_
            refine lv_iload hx hb dX4_giveUp_54 (lv_at hl 5 rfl) ?_
            refine va_iald hx hb hK hP 2 0 rfl rfl (z_ix ex4 (z48_s hj ex4 c_1) (by decide)) dX4_giveUp_56 ?_
            refine W.eq (g2 := F0 m 57 ls [.int (nx1 j), .int x4, .ref g3]) (by rw [z_ic ex4 (z48_s hj ex4 c_1) (by decide)]) ?_
            refine va_iast hx hb hK hP hD hS 2 0 rfl rfl (z_ix ex4 (z48_s hj ex4 c_1) (by decide)) dX4_giveUp_57 (fun H locs hP hD hS => ?_)
            rw [z_ic ex4 (z48_s hj ex4 c_1) (by decide)] at hP hD
            have hP : va_P D vwCl [(h0, .inr (4, [.int code, .int (zb qq.1), .int qq.2.1, .int qq.2.2.1, .ref g1, .ref g2, .ref g3, .ref g4, .ref g5, .ref g6, .int (zb qq.2.2.2), .int (zb wi), .int (zb mo), .int mv, .int fr, .int sh, .int gr, .int cp, .int ra, .int rl])), (g2, .inl (cI, 48, .inl ow)), (g3, .inl (cI, 48, .inl (upd nx1 j (nx1 j))))] H := hP
            have hD : va_D A [(h0, .inr (4, [.int code, .int (zb qq.1), .int qq.2.1, .int qq.2.2.1, .ref g1, .ref g2, .ref g3, .ref g4, .ref g5, .ref g6, .int (zb qq.2.2.2), .int (zb wi), .int (zb mo), .int mv, .int fr, .int sh, .int gr, .int cp, .int ra, .int rl])), (g2, .inl (cI, 48, .inl ow)), (g3, .inl (cI, 48, .inl (upd nx1 j (nx1 j))))] := hD
            refine lv_iload_n hx hb dX4_giveUp_58 rfl (lv_at hl 4 rfl) ?_
            refine lv_iload hx hb dX4_giveUp_59 (lv_at hl 0 rfl) ?_
            refine lv_if_eq (tgt := 68) hx hb dX4_giveUp_61 (by decide) (fun c_4 => ?_) (fun c_4 => ?_)
            · skip
              refine lv_iconst (v := 0) hx hb dX4_giveUp_68 (by decide) ?_
              refine lv_iadd hx hb dX4_giveUp_69 ?_
              refine lv_istore_n (lv' := [(3, .int (x3 + 0)), (5, .int 0), (0, .ref h0), (1, .int p0), (2, .int p1), (4, .int x4)]) hx hb dX4_giveUp_70 rfl hl (by decide) rfl (fun ls hl => ?_)
              refine lv_iinc (v := x4 + 1) (lv' := [(4, .int (x4 + 1)), (3, .int (x3 + 0)), (5, .int 0), (0, .ref h0), (1, .int p0), (2, .int p1)]) hx hb dX4_giveUp_71 hl (k := 5) rfl (by rfl) (by decide) rfl (fun ls hl => ?_)
              refine lv_goto (tgt := 5) hx hb dX4_giveUp_74 (by decide) ?_
              exact ih (j + 1) (x4 + 1) (x3 + 0) (upd nx1 j (nx1 j)) (z48_s hj ex4 c_1) (by omega) (by rw [ex4, nI_succ]) (by subst ex3 ex4; simp only [m_cnt, Int32.add_zero, if_neg c_2]) (by subst ex3 ef; exact m_gvF_s (by simp only [m_gvF_at, if_neg c_2])) H locs ls hP hD hS (lv_sub hl [3, 4, 5, 1, 0] rfl)
            · skip
              exact absurd (by decide) c_4
          · skip
            exact absurd (by decide) c_3
        · skip
          refine lv_iconst (v := 1) hx hb dX4_giveUp_23 (by decide) ?_
          refine lv_goto (tgt := 28) hx hb dX4_giveUp_24 (by decide) ?_
          refine lv_istore (lv' := [(5, .int 1), (0, .ref h0), (1, .int p0), (2, .int p1), (3, .int x3), (4, .int x4)]) hx hb dX4_giveUp_28 hl (by decide) rfl (fun ls hl => ?_)
          refine lv_aload_n hx hb dX4_giveUp_30 rfl (lv_at hl 1 rfl) ?_
          refine va_get (D := D) (ci := 4) (v := .ref g3) (C := RX4) (T := TX4) (N := 20) hx hb hts hin4 hown hK hP 0 rfl rfl 6 (by decide) hf24 (fun _ h9 => h9) rfl dX4_giveUp_31 ?_
          refine lv_iload hx hb dX4_giveUp_34 (lv_at hl 5 rfl) ?_
          refine lv_iload hx hb dX4_giveUp_36 (lv_at hl 0 rfl) ?_
          refine lv_if_eq (tgt := 50) hx hb dX4_giveUp_38 (by decide) (fun c_5 => ?_) (fun c_5 => ?_)
          · skip
            exact absurd c_5 (by decide)
          · skip
            refine lv_iload_n hx hb dX4_giveUp_41 rfl (lv_at hl 4 rfl) ?_
            refine lv_iload_n hx hb dX4_giveUp_42 rfl (lv_at hl 3 rfl) ?_
            refine lv_icmp_lt (tgt := 50) hx hb dX4_giveUp_43 (by decide) (fun c_6 => ?_) (fun c_6 => ?_)
            · skip
              refine lv_aload_n hx hb dX4_giveUp_50 rfl (lv_at hl 1 rfl) ?_
              refine va_get (D := D) (ci := 4) (v := .ref g3) (C := RX4) (T := TX4) (N := 20) hx hb hts hin4 hown hK hP 0 rfl rfl 6 (by decide) hf24 (fun _ h9 => h9) rfl dX4_giveUp_51 ?_
              refine lv_iload hx hb dX4_giveUp_54 (lv_at hl 5 rfl) ?_
              refine va_iald hx hb hK hP 2 0 rfl rfl (z_ix ex4 (z48_s hj ex4 c_1) (by decide)) dX4_giveUp_56 ?_
              refine W.eq (g2 := F0 m 57 ls [.int (nx1 j), .int x4, .ref g3]) (by rw [z_ic ex4 (z48_s hj ex4 c_1) (by decide)]) ?_
              refine va_iast hx hb hK hP hD hS 2 0 rfl rfl (z_ix ex4 (z48_s hj ex4 c_1) (by decide)) dX4_giveUp_57 (fun H locs hP hD hS => ?_)
              rw [z_ic ex4 (z48_s hj ex4 c_1) (by decide)] at hP hD
              have hP : va_P D vwCl [(h0, .inr (4, [.int code, .int (zb qq.1), .int qq.2.1, .int qq.2.2.1, .ref g1, .ref g2, .ref g3, .ref g4, .ref g5, .ref g6, .int (zb qq.2.2.2), .int (zb wi), .int (zb mo), .int mv, .int fr, .int sh, .int gr, .int cp, .int ra, .int rl])), (g2, .inl (cI, 48, .inl ow)), (g3, .inl (cI, 48, .inl (upd nx1 j (nx1 j))))] H := hP
              have hD : va_D A [(h0, .inr (4, [.int code, .int (zb qq.1), .int qq.2.1, .int qq.2.2.1, .ref g1, .ref g2, .ref g3, .ref g4, .ref g5, .ref g6, .int (zb qq.2.2.2), .int (zb wi), .int (zb mo), .int mv, .int fr, .int sh, .int gr, .int cp, .int ra, .int rl])), (g2, .inl (cI, 48, .inl ow)), (g3, .inl (cI, 48, .inl (upd nx1 j (nx1 j))))] := hD
              refine lv_iload_n hx hb dX4_giveUp_58 rfl (lv_at hl 4 rfl) ?_
              refine lv_iload hx hb dX4_giveUp_59 (lv_at hl 0 rfl) ?_
              refine lv_if_eq (tgt := 68) hx hb dX4_giveUp_61 (by decide) (fun c_7 => ?_) (fun c_7 => ?_)
              · skip
                exact absurd c_7 (by decide)
              · skip
                refine lv_iconst (v := 1) hx hb dX4_giveUp_64 (by decide) ?_
                refine lv_goto (tgt := 69) hx hb dX4_giveUp_65 (by decide) ?_
                refine lv_iadd hx hb dX4_giveUp_69 ?_
                refine lv_istore_n (lv' := [(3, .int (x3 + 1)), (5, .int 1), (0, .ref h0), (1, .int p0), (2, .int p1), (4, .int x4)]) hx hb dX4_giveUp_70 rfl hl (by decide) rfl (fun ls hl => ?_)
                refine lv_iinc (v := x4 + 1) (lv' := [(4, .int (x4 + 1)), (3, .int (x3 + 1)), (5, .int 1), (0, .ref h0), (1, .int p0), (2, .int p1)]) hx hb dX4_giveUp_71 hl (k := 5) rfl (by rfl) (by decide) rfl (fun ls hl => ?_)
                refine lv_goto (tgt := 5) hx hb dX4_giveUp_74 (by decide) ?_
                exact ih (j + 1) (x4 + 1) (x3 + 1) (upd nx1 j (nx1 j)) (z48_s hj ex4 c_1) (by omega) (by rw [ex4, nI_succ]) (by subst ex3 ex4; simp only [m_cnt, Int32.add_zero, if_pos c_2, if_pos c_6]) (by subst ex3 ef; exact m_gvF_s (by simp only [m_gvF_at, if_pos c_2, if_pos c_6])) H locs ls hP hD hS (lv_sub hl [3, 4, 5, 1, 0] rfl)
            · skip
              refine lv_iconst (v := 0) hx hb dX4_giveUp_46 (by decide) ?_
              refine lv_goto (tgt := 57) hx hb dX4_giveUp_47 (by decide) ?_
              refine va_iast hx hb hK hP hD hS 2 0 rfl rfl (z_ix ex4 (z48_s hj ex4 c_1) (by decide)) dX4_giveUp_57 (fun H locs hP hD hS => ?_)
              rw [z_ic ex4 (z48_s hj ex4 c_1) (by decide)] at hP hD
              have hP : va_P D vwCl [(h0, .inr (4, [.int code, .int (zb qq.1), .int qq.2.1, .int qq.2.2.1, .ref g1, .ref g2, .ref g3, .ref g4, .ref g5, .ref g6, .int (zb qq.2.2.2), .int (zb wi), .int (zb mo), .int mv, .int fr, .int sh, .int gr, .int cp, .int ra, .int rl])), (g2, .inl (cI, 48, .inl ow)), (g3, .inl (cI, 48, .inl (upd nx1 j 0)))] H := hP
              have hD : va_D A [(h0, .inr (4, [.int code, .int (zb qq.1), .int qq.2.1, .int qq.2.2.1, .ref g1, .ref g2, .ref g3, .ref g4, .ref g5, .ref g6, .int (zb qq.2.2.2), .int (zb wi), .int (zb mo), .int mv, .int fr, .int sh, .int gr, .int cp, .int ra, .int rl])), (g2, .inl (cI, 48, .inl ow)), (g3, .inl (cI, 48, .inl (upd nx1 j 0)))] := hD
              refine lv_iload_n hx hb dX4_giveUp_58 rfl (lv_at hl 4 rfl) ?_
              refine lv_iload hx hb dX4_giveUp_59 (lv_at hl 0 rfl) ?_
              refine lv_if_eq (tgt := 68) hx hb dX4_giveUp_61 (by decide) (fun c_8 => ?_) (fun c_8 => ?_)
              · skip
                exact absurd c_8 (by decide)
              · skip
                refine lv_iconst (v := 1) hx hb dX4_giveUp_64 (by decide) ?_
                refine lv_goto (tgt := 69) hx hb dX4_giveUp_65 (by decide) ?_
                refine lv_iadd hx hb dX4_giveUp_69 ?_
                refine lv_istore_n (lv' := [(3, .int (x3 + 1)), (5, .int 1), (0, .ref h0), (1, .int p0), (2, .int p1), (4, .int x4)]) hx hb dX4_giveUp_70 rfl hl (by decide) rfl (fun ls hl => ?_)
                refine lv_iinc (v := x4 + 1) (lv' := [(4, .int (x4 + 1)), (3, .int (x3 + 1)), (5, .int 1), (0, .ref h0), (1, .int p0), (2, .int p1)]) hx hb dX4_giveUp_71 hl (k := 5) rfl (by rfl) (by decide) rfl (fun ls hl => ?_)
                refine lv_goto (tgt := 5) hx hb dX4_giveUp_74 (by decide) ?_
                exact ih (j + 1) (x4 + 1) (x3 + 1) (upd nx1 j 0) (z48_s hj ex4 c_1) (by omega) (by rw [ex4, nI_succ]) (by subst ex3 ex4; simp only [m_cnt, Int32.add_zero, if_pos c_2, if_neg c_6]) (by subst ex3 ef; exact m_gvF_s (by simp only [m_gvF_at, if_pos c_2, if_neg c_6])) H locs ls hP hD hS (lv_sub hl [3, 4, 5, 1, 0] rfl)
  refine lv_iconst (v := 0) hx hb dX4_giveUp_0 (by decide) ?_
  refine lv_istore_n (lv' := [(3, .int 0), (0, .ref h0), (1, .int p0), (2, .int p1)]) hx hb dX4_giveUp_1 rfl hl (by decide) rfl (fun ls hl => ?_)
  refine lv_iconst (v := 0) hx hb dX4_giveUp_2 (by decide) ?_
  refine lv_istore (lv' := [(4, .int 0), (3, .int 0), (0, .ref h0), (1, .int p0), (2, .int p1)]) hx hb dX4_giveUp_3 hl (by decide) rfl (fun ls hl => ?_)
  exact L5 (48 + 1) 0 0 0 nx (Nat.zero_le _) (by omega) nI_0.symm rfl (m_gvF_0 _ _ _ _).symm H locs ls hP hD hS (lv_sub hl [2, 3, 4, 1, 0] rfl)
theorem qd_X4_change : yX4_change.cls = RX4 ∧ yX4_change.cls ≠ "java/lang/invoke/MethodHandle" ∧ yX4_change.cls ≠ "java/lang/invoke/VarHandle" ∧ (parseMethodDescriptor yX4_change.desc).map (fun d => d.parameters.length) = some 0 := by decide +kernel
set_option maxHeartbeats 400000 in
set_option maxRecDepth 100000 in
/-- change -/
theorem c_X4_change (l : Launch) (D : va_G) (cI : ClassId) (h0 : Nat) (g1 : Nat) (g2 : Nat) (g3 : Nat) (g4 : Nat) (g5 : Nat) (g6 : Nat) (code : Int32) (qq : zQ) (wi : Bool) (mo : Bool) (mv : Int32) (fr : Int32) (sh : Int32) (gr : Int32) (cp : Int32) (ra : Int32) (rl : Int32) (ow : zA) (nx : zA) (sz : Nat) : Met l yX4_change wsX4_change ({ frames := 1, cells := 0, slots := 0, locals := 22 }) (z_Pw D cI [.ref h0] [(h0, .inr (4, [.int code, .int (zb qq.1), .int qq.2.1, .int qq.2.2.1, .ref g1, .ref g2, .ref g3, .ref g4, .ref g5, .ref g6, .int (zb qq.2.2.2), .int (zb wi), .int (zb mo), .int mv, .int fr, .int sh, .int gr, .int cp, .int ra, .int rl])), (g2, .inl (cI, 48, .inl ow)), (g3, .inl (cI, 48, .inl nx))] sz) (z_Wo D (some (.int (zb ((m_change qq wi ow nx).1)))) [(h0, .inr (4, [.int code, .int (zb ((m_change qq wi ow nx).2.1).1), .int (((m_change qq wi ow nx).2.1).2.1), .int (((m_change qq wi ow nx).2.1).2.2.1), .ref g1, .ref g2, .ref g3, .ref g4, .ref g5, .ref g6, .int (zb ((m_change qq wi ow nx).2.1).2.2.2), .int (zb wi), .int (zb mo), .int mv, .int fr, .int sh, .int gr, .int cp, .int ra, .int rl])), (g2, .inl (cI, 48, .inl ((m_change qq wi ow nx).2.2))), (g3, .inl (cI, 48, .inl nx))] (va_A [(h0, .inr (4, [.int code, .int (zb qq.1), .int qq.2.1, .int qq.2.2.1, .ref g1, .ref g2, .ref g3, .ref g4, .ref g5, .ref g6, .int (zb qq.2.2.2), .int (zb wi), .int (zb mo), .int mv, .int fr, .int sh, .int gr, .int cp, .int ra, .int rl])), (g2, .inl (cI, 48, .inl ow)), (g3, .inl (cI, 48, .inl nx))] sz)) 0 0 (va_A [(h0, .inr (4, [.int code, .int (zb qq.1), .int qq.2.1, .int qq.2.2.1, .ref g1, .ref g2, .ref g3, .ref g4, .ref g5, .ref g6, .int (zb qq.2.2.2), .int (zb wi), .int (zb mo), .int mv, .int fr, .int sh, .int gr, .int cp, .int ra, .int rl])), (g2, .inl (cI, 48, .inl ow)), (g3, .inl (cI, 48, .inl nx))] sz) := by
  refine Met.ofW (cc := cX4_change) (maxL := 3) (ret := (some .boolean)) (by decide) rfl ?_
  intro p e s m args below meth c s₁ B hml hv
  obtain ⟨rfl, hsz, hP, hK, hD0⟩ := hv
  have hx := B.exec
  have hb := B.bytes
  have hr := B.returns
  have hts := atoms_spec (ws := wsX4_change) B.pre
  have hown : s.vm.findClass RX4 = some m.cls := findClass_of_methodNamed B.named
  have hlocks := B.notSynchronized
  subst hsz
  have hD := hD0.self (sz := s.heap.size)
  generalize hAe : va_A [(h0, .inr (4, [.int code, .int (zb qq.1), .int qq.2.1, .int qq.2.2.1, .ref g1, .ref g2, .ref g3, .ref g4, .ref g5, .ref g6, .int (zb qq.2.2.2), .int (zb wi), .int (zb mo), .int mv, .int fr, .int sh, .int gr, .int cp, .int ra, .int rl])), (g2, .inl (cI, 48, .inl ow)), (g3, .inl (cI, 48, .inl nx))] s.heap.size = A at hD ⊢
  have hA : ∀ q : Nat, s.heap.size ≤ q → A q := fun q h => by rw [← hAe]; exact Or.inr h
  have hS : va_S A s.heap s.heap [] := va_S.rf
  have hP : va_P D vwCl [(h0, .inr (4, [.int code, .int (zb qq.1), .int qq.2.1, .int qq.2.2.1, .ref g1, .ref g2, .ref g3, .ref g4, .ref g5, .ref g6, .int (zb qq.2.2.2), .int (zb wi), .int (zb mo), .int mv, .int fr, .int sh, .int gr, .int cp, .int ra, .int rl])), (g2, .inl (cI, 48, .inl ow)), (g3, .inl (cI, 48, .inl nx))] s.heap := hP
  have hl := lv_entry ([.ref h0]) (n := 3) (Nat.le_of_ble_eq_true rfl)
  rw [lg_entry_eq]
  generalize (lg_sl ([.ref h0]) ++ List.replicate (3 - (lg_sl ([.ref h0])).length) Slot.unset).toArray = ls at hl ⊢
  have hl : lv_has ls 3 [(0, .ref h0)] := hl
  refine z_start hP hS (fun H locs hP hS => ?_)
  have hin4 : ∀ w ∈ wsX40, w ∈ wsX4_change := by decide +kernel
  have hf21 := hts (.fieldLink RX4 21 "SqueezedVolumeModel" "owner" "[I") (by decide +kernel)
  have hf24 := hts (.fieldLink RX4 24 "SqueezedVolumeModel" "next" "[I") (by decide +kernel)
  have L35 : ∀ (k : Nat) (j : Nat) (x2 : Int32) (ow1 : zA) (qq2 : zQ), (j ≤ 48) → (48 + 1 ≤ j + k) → (x2 = nI j) → (ow1 = m_cpF ow nx j) → (m_writes wi (m_nw nx).toNatClampNeg qq = (true, qq2)) → ∀ (H : Heap) (locs : List Loc) (ls : Array Slot), va_P D vwCl [(h0, .inr (4, [.int code, .int (zb qq2.1), .int qq2.2.1, .int qq2.2.2.1, .ref g1, .ref g2, .ref g3, .ref g4, .ref g5, .ref g6, .int (zb qq2.2.2.2), .int (zb wi), .int (zb mo), .int mv, .int fr, .int sh, .int gr, .int cp, .int ra, .int rl])), (g2, .inl (cI, 48, .inl ow1)), (g3, .inl (cI, 48, .inl nx))] H → va_D A [(h0, .inr (4, [.int code, .int (zb qq2.1), .int qq2.2.1, .int qq2.2.2.1, .ref g1, .ref g2, .ref g3, .ref g4, .ref g5, .ref g6, .int (zb qq2.2.2.2), .int (zb wi), .int (zb mo), .int mv, .int fr, .int sh, .int gr, .int cp, .int ra, .int rl])), (g2, .inl (cI, 48, .inl ow1)), (g3, .inl (cI, 48, .inl nx))] → va_S A s.heap H locs → lv_has ls 3 [(0, .ref h0), (1, .int (m_runF nx 48)), (2, .int x2)] → W p l e ({ frames := 1, cells := 0, slots := 0, locals := 22 }) s m ([.ref h0] : List Value).toArray below meth c H locs 0 0 (MQ below (z_Wo D (some (.int (zb ((m_change qq wi ow nx).1)))) [(h0, .inr (4, [.int code, .int (zb ((m_change qq wi ow nx).2.1).1), .int (((m_change qq wi ow nx).2.1).2.1), .int (((m_change qq wi ow nx).2.1).2.2.1), .ref g1, .ref g2, .ref g3, .ref g4, .ref g5, .ref g6, .int (zb ((m_change qq wi ow nx).2.1).2.2.2), .int (zb wi), .int (zb mo), .int mv, .int fr, .int sh, .int gr, .int cp, .int ra, .int rl])), (g2, .inl (cI, 48, .inl ((m_change qq wi ow nx).2.2))), (g3, .inl (cI, 48, .inl nx))] A) ([.ref h0] : List Value).toArray s 0 0 A) (F0 m 35 ls []) := by
    intro k
    induction k with
    | zero =>
      intro j x2 ow1 qq2 hj hk ex2 ef hq
      exfalso; omega
    | succ k ih =>
      intro j x2 ow1 qq2 hj hk ex2 ef hq
      intro H locs ls hP hD hS hl
      refine lv_iload_n hx hb dX4_change_35 rfl (lv_at hl 2 rfl) ?_
      refine lv_bipush (v := 48) hx hb dX4_change_36 (by decide) ?_
      refine lv_icmp_ge (tgt := 59) hx hb dX4_change_38 (by decide) (fun c_1 => ?_) (fun c_1 => ?_)
      · skip
        refine lv_iconst (v := 1) hx hb dX4_change_59 (by decide) ?_
        have hE : m_change qq wi ow nx = (true, qq2, ow1) := by rw [m_change, if_neg (by rw [hq]; simp), hq, ef, z48_e hj ex2 c_1]; rfl
        have hPz : va_P D vwCl [(h0, .inr (4, [.int code, .int (zb ((m_change qq wi ow nx).2.1).1), .int (((m_change qq wi ow nx).2.1).2.1), .int (((m_change qq wi ow nx).2.1).2.2.1), .ref g1, .ref g2, .ref g3, .ref g4, .ref g5, .ref g6, .int (zb ((m_change qq wi ow nx).2.1).2.2.2), .int (zb wi), .int (zb mo), .int mv, .int fr, .int sh, .int gr, .int cp, .int ra, .int rl])), (g2, .inl (cI, 48, .inl ((m_change qq wi ow nx).2.2))), (g3, .inl (cI, 48, .inl nx))] H := by rw [hE]; exact hP
        have hRr : 1 = zb ((m_change qq wi ow nx).1) := by first | (rw [hE]; done) | (rw [hE]; rfl)
        exact W.zret (v := 1) (ty := .boolean) hx hb hr rfl (fun t ht hW => ⟨⟨z_ret hRr, by rw [ht]; exact hPz⟩, hS.F ht⟩) hS.2.2 dX4_change_60
      · skip
        refine lv_aload_n hx hb dX4_change_41 rfl (lv_at hl 0 rfl) ?_
        refine va_get (D := D) (ci := 4) (v := .ref g2) (C := RX4) (T := TX4) (N := 20) hx hb hts hin4 hown hK hP 0 rfl rfl 5 (by decide) hf21 (fun _ h9 => h9) rfl dX4_change_42 ?_
        refine lv_iload_n hx hb dX4_change_45 rfl (lv_at hl 2 rfl) ?_
        refine lv_aload_n hx hb dX4_change_46 rfl (lv_at hl 0 rfl) ?_
        refine va_get (D := D) (ci := 4) (v := .ref g3) (C := RX4) (T := TX4) (N := 20) hx hb hts hin4 hown hK hP 0 rfl rfl 6 (by decide) hf24 (fun _ h9 => h9) rfl dX4_change_47 ?_
        refine lv_iload_n hx hb dX4_change_50 rfl (lv_at hl 2 rfl) ?_
        refine va_iald hx hb hK hP 2 0 rfl rfl (z_ix ex2 (z48_s hj ex2 c_1) (by decide)) dX4_change_51 ?_
        refine W.eq (g2 := F0 m 52 ls [.int (nx j), .int x2, .ref g2]) (by rw [z_ic ex2 (z48_s hj ex2 c_1) (by decide)]) ?_
        refine va_iast hx hb hK hP hD hS 1 0 rfl rfl (z_ix ex2 (z48_s hj ex2 c_1) (by decide)) dX4_change_52 (fun H locs hP hD hS => ?_)
        rw [z_ic ex2 (z48_s hj ex2 c_1) (by decide)] at hP hD
        have hP : va_P D vwCl [(h0, .inr (4, [.int code, .int (zb qq2.1), .int qq2.2.1, .int qq2.2.2.1, .ref g1, .ref g2, .ref g3, .ref g4, .ref g5, .ref g6, .int (zb qq2.2.2.2), .int (zb wi), .int (zb mo), .int mv, .int fr, .int sh, .int gr, .int cp, .int ra, .int rl])), (g2, .inl (cI, 48, .inl (upd ow1 j (nx j)))), (g3, .inl (cI, 48, .inl nx))] H := hP
        have hD : va_D A [(h0, .inr (4, [.int code, .int (zb qq2.1), .int qq2.2.1, .int qq2.2.2.1, .ref g1, .ref g2, .ref g3, .ref g4, .ref g5, .ref g6, .int (zb qq2.2.2.2), .int (zb wi), .int (zb mo), .int mv, .int fr, .int sh, .int gr, .int cp, .int ra, .int rl])), (g2, .inl (cI, 48, .inl (upd ow1 j (nx j)))), (g3, .inl (cI, 48, .inl nx))] := hD
        refine lv_iinc (v := x2 + 1) (lv' := [(2, .int (x2 + 1)), (0, .ref h0), (1, .int (m_runF nx 48))]) hx hb dX4_change_53 hl (k := 2) rfl (by rfl) (by decide) rfl (fun ls hl => ?_)
        refine lv_goto (tgt := 35) hx hb dX4_change_56 (by decide) ?_
        exact ih (j + 1) (x2 + 1) (upd ow1 j (nx j)) qq2 (z48_s hj ex2 c_1) (by omega) (by rw [ex2, nI_succ]) (by rw [ef]; exact m_cpF_s) hq H locs ls hP hD hS (lv_sub hl [1, 2, 0] rfl)
  have L7 : ∀ (k : Nat) (j : Nat) (x2 : Int32) (qq1 : zQ), (j ≤ (m_nw nx).toNatClampNeg) → (((m_nw nx).toNatClampNeg) + 1 ≤ j + k) → (x2 = nI j) → (m_writes wi ((m_nw nx).toNatClampNeg - j) qq1 = m_writes wi (m_nw nx).toNatClampNeg qq) → ∀ (H : Heap) (locs : List Loc) (ls : Array Slot), va_P D vwCl [(h0, .inr (4, [.int code, .int (zb qq1.1), .int qq1.2.1, .int qq1.2.2.1, .ref g1, .ref g2, .ref g3, .ref g4, .ref g5, .ref g6, .int (zb qq1.2.2.2), .int (zb wi), .int (zb mo), .int mv, .int fr, .int sh, .int gr, .int cp, .int ra, .int rl])), (g2, .inl (cI, 48, .inl ow)), (g3, .inl (cI, 48, .inl nx))] H → va_D A [(h0, .inr (4, [.int code, .int (zb qq1.1), .int qq1.2.1, .int qq1.2.2.1, .ref g1, .ref g2, .ref g3, .ref g4, .ref g5, .ref g6, .int (zb qq1.2.2.2), .int (zb wi), .int (zb mo), .int mv, .int fr, .int sh, .int gr, .int cp, .int ra, .int rl])), (g2, .inl (cI, 48, .inl ow)), (g3, .inl (cI, 48, .inl nx))] → va_S A s.heap H locs → lv_has ls 3 [(0, .ref h0), (1, .int (m_runF nx 48)), (2, .int x2)] → W p l e ({ frames := 1, cells := 0, slots := 0, locals := 22 }) s m ([.ref h0] : List Value).toArray below meth c H locs 0 0 (MQ below (z_Wo D (some (.int (zb ((m_change qq wi ow nx).1)))) [(h0, .inr (4, [.int code, .int (zb ((m_change qq wi ow nx).2.1).1), .int (((m_change qq wi ow nx).2.1).2.1), .int (((m_change qq wi ow nx).2.1).2.2.1), .ref g1, .ref g2, .ref g3, .ref g4, .ref g5, .ref g6, .int (zb ((m_change qq wi ow nx).2.1).2.2.2), .int (zb wi), .int (zb mo), .int mv, .int fr, .int sh, .int gr, .int cp, .int ra, .int rl])), (g2, .inl (cI, 48, .inl ((m_change qq wi ow nx).2.2))), (g3, .inl (cI, 48, .inl nx))] A) ([.ref h0] : List Value).toArray s 0 0 A) (F0 m 7 ls []) := by
    intro k
    induction k with
    | zero =>
      intro j x2 qq1 hj hk ex2 er
      exfalso; omega
    | succ k ih =>
      intro j x2 qq1 hj hk ex2 er
      intro H locs ls hP hD hS hl
      refine lv_iload_n hx hb dX4_change_7 rfl (lv_at hl 2 rfl) ?_
      refine lv_iload_n hx hb dX4_change_8 rfl (lv_at hl 1 rfl) ?_
      refine lv_iconst (v := 3) hx hb dX4_change_9 (by decide) ?_
      refine lv_iadd hx hb dX4_change_10 ?_
      refine lv_iconst (v := 4) hx hb dX4_change_11 (by decide) ?_
      refine lv_idiv hx hb dX4_change_12 (by decide) ?_
      refine lv_iconst (v := 1) hx hb dX4_change_13 (by decide) ?_
      refine lv_iadd hx hb dX4_change_14 ?_
      refine lv_icmp_ge (tgt := 33) hx hb dX4_change_15 (by decide) (fun c_2 => ?_) (fun c_2 => ?_)
      · skip
        refine lv_iconst (v := 0) hx hb dX4_change_33 (by decide) ?_
        refine lv_istore_n (lv' := [(2, .int 0), (0, .ref h0), (1, .int (m_runF nx 48))]) hx hb dX4_change_34 rfl hl (by decide) rfl (fun ls hl => ?_)
        exact L35 (48 + 1) 0 0 ow qq1 (Nat.zero_le _) (by omega) nI_0.symm (m_cpF_0 _ _).symm (m_writes_e er (z_c_eq hj ex2 c_2)) H locs ls hP hD hS (lv_sub hl [1, 2, 0] rfl)
      · skip
        refine lv_aload_n hx hb dX4_change_18 rfl (lv_at hl 0 rfl) ?_
        have hPc : va_P D vwCl [(h0, .inr (4, [.int code, .int (zb qq1.1), .int qq1.2.1, .int qq1.2.2.1, .ref g1, .ref g2, .ref g3, .ref g4, .ref g5, .ref g6, .int (zb qq1.2.2.2), .int (zb wi), .int (zb mo), .int mv, .int fr, .int sh, .int gr, .int cp, .int ra, .int rl]))] H := hP.sub [0] rfl
        have hDc : va_D A [(h0, .inr (4, [.int code, .int (zb qq1.1), .int qq1.2.1, .int qq1.2.2.1, .ref g1, .ref g2, .ref g3, .ref g4, .ref g5, .ref g6, .int (zb qq1.2.2.2), .int (zb wi), .int (zb mo), .int mv, .int fr, .int sh, .int gr, .int cp, .int ra, .int rl]))] := hD.sub [0] (by decide) rfl
        refine z_callWi (ws' := [(h0, .inr (4, [.int code, .int (zb ((m_write qq1 wi).2).1), .int (((m_write qq1 wi).2).2.1), .int (((m_write qq1 wi).2).2.2.1), .ref g1, .ref g2, .ref g3, .ref g4, .ref g5, .ref g6, .int (zb ((m_write qq1 wi).2).2.2.2), .int (zb wi), .int (zb mo), .int mv, .int fr, .int sh, .int gr, .int cp, .int ra, .int rl])), (g2, .inl (cI, 48, .inl ow)), (g3, .inl (cI, 48, .inl nx))]) [0] [1, 2] [(g2, .inl (cI, 48, .inl ow)), (g3, .inl (cI, 48, .inl nx))] [h0, g2, g3] (va_runV (As := []) (rest := []) ⟨hx, hb, hml, hown, hts⟩ (c_X4_write l D cI h0 g1 g2 g3 g4 g5 g6 code qq1 wi mo mv fr sh gr cp ra rl H.size) (cwV 0 hts gX4_change_X4_write rfl rfl rfl qd_X4_write ⟨Nat.le_of_ble_eq_true rfl, Nat.le_of_ble_eq_true rfl⟩) ⟨z_Pw_blind, va_recv hK hP (ci := 4) (q0 := 0) rfl rfl, fun U hU hW => ⟨rfl, by rw [hU], by rw [hU]; exact hPc, va_K.moved hW.alike hK, hDc.weaken (fun _ _ _ _ => trivial)⟩⟩ rfl rfl hl.1 rfl (lv_room (Nat.le_of_ble_eq_true rfl)) dX4_change_19 ⟨Nat.le_of_ble_eq_true rfl, Nat.le_of_ble_eq_true rfl⟩) hP hD hS hA ⟨rfl, rfl, rfl, rfl, rfl, rfl, rfl⟩ (fun H locs hP hD hS => ?_)
        refine lv_if_ne (tgt := 27) hx hb dX4_change_22 (by decide) (fun c_3 => ?_) (fun c_3 => ?_)
        · skip
          refine lv_iinc (v := x2 + 1) (lv' := [(2, .int (x2 + 1)), (0, .ref h0), (1, .int (m_runF nx 48))]) hx hb dX4_change_27 hl (k := 2) rfl (by rfl) (by decide) rfl (fun ls hl => ?_)
          refine lv_goto (tgt := 7) hx hb dX4_change_30 (by decide) ?_
          exact ih (j + 1) (x2 + 1) ((m_write qq1 wi).2) (z_c_g hj ex2 c_2) (by omega) (by rw [ex2, nI_succ]) (m_writes_s er (z_c_g hj ex2 c_2) (z_b1 c_3)) H locs ls hP hD hS (lv_sub hl [1, 2, 0] rfl)
        · skip
          refine lv_iconst (v := 0) hx hb dX4_change_25 (by decide) ?_
          have hE : m_change qq wi ow nx = (false, (m_write qq1 wi).2, ow) := by rw [m_change, if_pos (by rw [m_writes_f er (z_c_g hj ex2 c_2) (z_b0 c_3)]), m_writes_f er (z_c_g hj ex2 c_2) (z_b0 c_3)]
          have hPz : va_P D vwCl [(h0, .inr (4, [.int code, .int (zb ((m_change qq wi ow nx).2.1).1), .int (((m_change qq wi ow nx).2.1).2.1), .int (((m_change qq wi ow nx).2.1).2.2.1), .ref g1, .ref g2, .ref g3, .ref g4, .ref g5, .ref g6, .int (zb ((m_change qq wi ow nx).2.1).2.2.2), .int (zb wi), .int (zb mo), .int mv, .int fr, .int sh, .int gr, .int cp, .int ra, .int rl])), (g2, .inl (cI, 48, .inl ((m_change qq wi ow nx).2.2))), (g3, .inl (cI, 48, .inl nx))] H := by rw [hE]; exact hP
          have hRr : 0 = zb ((m_change qq wi ow nx).1) := by first | (rw [hE]; done) | (rw [hE]; rfl)
          exact W.zret (v := 0) (ty := .boolean) hx hb hr rfl (fun t ht hW => ⟨⟨z_ret hRr, by rw [ht]; exact hPz⟩, hS.F ht⟩) hS.2.2 dX4_change_26
  refine lv_aload_n hx hb dX4_change_0 rfl (lv_at hl 0 rfl) ?_
  refine z_callRi (va_runV (As := []) (rest := []) ⟨hx, hb, hml, hown, hts⟩ (c_X4_runs l D cI h0 g1 g2 g3 g4 g5 g6 code qq wi mo mv fr sh gr cp ra rl nx) (cwV 0 hts gX4_change_X4_runs rfl rfl rfl qd_X4_runs ⟨Nat.le_of_ble_eq_true rfl, Nat.le_of_ble_eq_true rfl⟩) ⟨z_Pr_blind, va_recv hK hP (ci := 4) (q0 := 0) rfl rfl, fun U hU hW => ⟨rfl, by rw [hU]; exact hP.sub (ws' := [(h0, .inr (4, [.int code, .int (zb qq.1), .int qq.2.1, .int qq.2.2.1, .ref g1, .ref g2, .ref g3, .ref g4, .ref g5, .ref g6, .int (zb qq.2.2.2), .int (zb wi), .int (zb mo), .int mv, .int fr, .int sh, .int gr, .int cp, .int ra, .int rl])), (g3, .inl (cI, 48, .inl nx))]) [0, 2] rfl, va_K.moved hW.alike hK⟩⟩ rfl rfl hl.1 rfl (lv_room (Nat.le_of_ble_eq_true rfl)) dX4_change_1 ⟨Nat.le_of_ble_eq_true rfl, Nat.le_of_ble_eq_true rfl⟩) ?_
  refine lv_istore_n (lv' := [(1, .int (m_runF nx 48)), (0, .ref h0)]) hx hb dX4_change_4 rfl hl (by decide) rfl (fun ls hl => ?_)
  refine lv_iconst (v := 0) hx hb dX4_change_5 (by decide) ?_
  refine lv_istore_n (lv' := [(2, .int 0), (1, .int (m_runF nx 48)), (0, .ref h0)]) hx hb dX4_change_6 rfl hl (by decide) rfl (fun ls hl => ?_)
  exact L7 (((m_nw nx).toNatClampNeg) + 1) 0 0 qq (Nat.zero_le _) (by omega) nI_0.symm rfl H locs ls hP hD hS (lv_sub hl [2, 1, 0] rfl)
theorem qd_X4_fit : yX4_fit.cls = RX4 ∧ yX4_fit.cls ≠ "java/lang/invoke/MethodHandle" ∧ yX4_fit.cls ≠ "java/lang/invoke/VarHandle" ∧ (parseMethodDescriptor yX4_fit.desc).map (fun d => d.parameters.length) = some 1 := by decide +kernel
set_option maxHeartbeats 400000 in
set_option maxRecDepth 100000 in
/-- fit -/
theorem c_X4_fit (l : Launch) (D : va_G) (cI : ClassId) (h0 : Nat) (g1 : Nat) (g2 : Nat) (g3 : Nat) (g4 : Nat) (g5 : Nat) (g6 : Nat) (code : Int32) (qq : zQ) (wi : Bool) (mo : Bool) (mv : Int32) (fr : Int32) (sh : Int32) (gr : Int32) (cp : Int32) (ra : Int32) (rl : Int32) (ow : zA) (p0 : Int32) (sz : Nat) : Met l yX4_fit wsX4_fit ({ frames := 1, cells := 0, slots := 0, locals := 22 }) (z_Pw D cI [.ref h0, .int p0] [(h0, .inr (4, [.int code, .int (zb qq.1), .int qq.2.1, .int qq.2.2.1, .ref g1, .ref g2, .ref g3, .ref g4, .ref g5, .ref g6, .int (zb qq.2.2.2), .int (zb wi), .int (zb mo), .int mv, .int fr, .int sh, .int gr, .int cp, .int ra, .int rl])), (g2, .inl (cI, 48, .inl ow))] sz) (z_Wo D (some (.int (zb ((m_fitR ow p0 ra).1)))) [(h0, .inr (4, [.int code, .int (zb qq.1), .int qq.2.1, .int qq.2.2.1, .ref g1, .ref g2, .ref g3, .ref g4, .ref g5, .ref g6, .int (zb qq.2.2.2), .int (zb wi), .int (zb mo), .int mv, .int fr, .int sh, .int gr, .int cp, .int ((m_fitR ow p0 ra).2.1), .int ((m_fitR ow p0 ra).2.2)])), (g2, .inl (cI, 48, .inl ow))] (va_A [(h0, .inr (4, [.int code, .int (zb qq.1), .int qq.2.1, .int qq.2.2.1, .ref g1, .ref g2, .ref g3, .ref g4, .ref g5, .ref g6, .int (zb qq.2.2.2), .int (zb wi), .int (zb mo), .int mv, .int fr, .int sh, .int gr, .int cp, .int ra, .int rl])), (g2, .inl (cI, 48, .inl ow))] sz)) 0 0 (va_A [(h0, .inr (4, [.int code, .int (zb qq.1), .int qq.2.1, .int qq.2.2.1, .ref g1, .ref g2, .ref g3, .ref g4, .ref g5, .ref g6, .int (zb qq.2.2.2), .int (zb wi), .int (zb mo), .int mv, .int fr, .int sh, .int gr, .int cp, .int ra, .int rl])), (g2, .inl (cI, 48, .inl ow))] sz) := by
  refine Met.ofW (cc := cX4_fit) (maxL := 4) (ret := (some .boolean)) (by decide) rfl ?_
  intro p e s m args below meth c s₁ B hml hv
  obtain ⟨rfl, hsz, hP, hK, hD0⟩ := hv
  have hx := B.exec
  have hb := B.bytes
  have hr := B.returns
  have hts := atoms_spec (ws := wsX4_fit) B.pre
  have hown : s.vm.findClass RX4 = some m.cls := findClass_of_methodNamed B.named
  have hlocks := B.notSynchronized
  subst hsz
  have hD := hD0.self (sz := s.heap.size)
  generalize hAe : va_A [(h0, .inr (4, [.int code, .int (zb qq.1), .int qq.2.1, .int qq.2.2.1, .ref g1, .ref g2, .ref g3, .ref g4, .ref g5, .ref g6, .int (zb qq.2.2.2), .int (zb wi), .int (zb mo), .int mv, .int fr, .int sh, .int gr, .int cp, .int ra, .int rl])), (g2, .inl (cI, 48, .inl ow))] s.heap.size = A at hD ⊢
  have hA : ∀ q : Nat, s.heap.size ≤ q → A q := fun q h => by rw [← hAe]; exact Or.inr h
  have hS : va_S A s.heap s.heap [] := va_S.rf
  have hP : va_P D vwCl [(h0, .inr (4, [.int code, .int (zb qq.1), .int qq.2.1, .int qq.2.2.1, .ref g1, .ref g2, .ref g3, .ref g4, .ref g5, .ref g6, .int (zb qq.2.2.2), .int (zb wi), .int (zb mo), .int mv, .int fr, .int sh, .int gr, .int cp, .int ra, .int rl])), (g2, .inl (cI, 48, .inl ow))] s.heap := hP
  have hl := lv_entry ([.ref h0, .int p0]) (n := 4) (Nat.le_of_ble_eq_true rfl)
  rw [lg_entry_eq]
  generalize (lg_sl ([.ref h0, .int p0]) ++ List.replicate (4 - (lg_sl ([.ref h0, .int p0])).length) Slot.unset).toArray = ls at hl ⊢
  have hl : lv_has ls 4 [(0, .ref h0), (1, .int p0)] := hl
  refine z_start hP hS (fun H locs hP hS => ?_)
  have hin4 : ∀ w ∈ wsX40, w ∈ wsX4_fit := by decide +kernel
  have hf56 := hts (.fieldLink RX4 56 "SqueezedVolumeModel" "runLength" "I") (by decide +kernel)
  have hf21 := hts (.fieldLink RX4 21 "SqueezedVolumeModel" "owner" "[I") (by decide +kernel)
  have hf63 := hts (.fieldLink RX4 63 "SqueezedVolumeModel" "runAt" "I") (by decide +kernel)
  have L8 : ∀ (k : Nat) (a9 : Nat) (x2 : Int32) (ra1 : Int32) (rl1 : Int32), (a9 ≤ 48) → (48 + 1 ≤ a9 + k) → (x2 = nI a9) → ((m_segF ow k a9).foldl (m_fitS ow p0) (ra1, rl1) = m_fit ow p0 ra) → ∀ (H : Heap) (locs : List Loc) (ls : Array Slot), va_P D vwCl [(h0, .inr (4, [.int code, .int (zb qq.1), .int qq.2.1, .int qq.2.2.1, .ref g1, .ref g2, .ref g3, .ref g4, .ref g5, .ref g6, .int (zb qq.2.2.2), .int (zb wi), .int (zb mo), .int mv, .int fr, .int sh, .int gr, .int cp, .int ra1, .int rl1])), (g2, .inl (cI, 48, .inl ow))] H → va_D A [(h0, .inr (4, [.int code, .int (zb qq.1), .int qq.2.1, .int qq.2.2.1, .ref g1, .ref g2, .ref g3, .ref g4, .ref g5, .ref g6, .int (zb qq.2.2.2), .int (zb wi), .int (zb mo), .int mv, .int fr, .int sh, .int gr, .int cp, .int ra1, .int rl1])), (g2, .inl (cI, 48, .inl ow))] → va_S A s.heap H locs → lv_has ls 4 [(0, .ref h0), (1, .int p0), (2, .int x2)] → W p l e ({ frames := 1, cells := 0, slots := 0, locals := 22 }) s m ([.ref h0, .int p0] : List Value).toArray below meth c H locs 0 0 (MQ below (z_Wo D (some (.int (zb ((m_fitR ow p0 ra).1)))) [(h0, .inr (4, [.int code, .int (zb qq.1), .int qq.2.1, .int qq.2.2.1, .ref g1, .ref g2, .ref g3, .ref g4, .ref g5, .ref g6, .int (zb qq.2.2.2), .int (zb wi), .int (zb mo), .int mv, .int fr, .int sh, .int gr, .int cp, .int ((m_fitR ow p0 ra).2.1), .int ((m_fitR ow p0 ra).2.2)])), (g2, .inl (cI, 48, .inl ow))] A) ([.ref h0, .int p0] : List Value).toArray s 0 0 A) (F0 m 8 ls []) := by
    intro k
    induction k with
    | zero =>
      intro a9 x2 ra1 rl1 hj hk ex2 er
      exfalso; omega
    | succ k ih =>
      intro a9 x2 ra1 rl1 hj hk ex2 er
      intro H locs ls hP hD hS hl
      refine lv_iload_n hx hb dX4_fit_8 rfl (lv_at hl 2 rfl) ?_
      refine lv_bipush (v := 48) hx hb dX4_fit_9 (by decide) ?_
      refine lv_icmp_ge (tgt := 59) hx hb dX4_fit_11 (by decide) (fun c_1 => ?_) (fun c_1 => ?_)
      · skip
        refine lv_aload_n hx hb dX4_fit_59 rfl (lv_at hl 0 rfl) ?_
        refine va_get (D := D) (ci := 4) (v := .int rl1) (C := RX4) (T := TX4) (N := 20) hx hb hts hin4 hown hK hP 0 rfl rfl 19 (by decide) hf56 (fun _ h9 => h9) rfl dX4_fit_60 ?_
        refine lv_bipush (v := 99) hx hb dX4_fit_63 (by decide) ?_
        refine lv_icmp_ge (tgt := 72) hx hb dX4_fit_65 (by decide) (fun c_2 => ?_) (fun c_2 => ?_)
        · skip
          refine lv_iconst (v := 0) hx hb dX4_fit_72 (by decide) ?_
          have hE : m_fitR ow p0 ra = (false, ra1, rl1) := by rw [m_fitR, m_seg_e er (z48_e hj ex2 c_1)]; simp only [if_pos c_2]
          have hPz : va_P D vwCl [(h0, .inr (4, [.int code, .int (zb qq.1), .int qq.2.1, .int qq.2.2.1, .ref g1, .ref g2, .ref g3, .ref g4, .ref g5, .ref g6, .int (zb qq.2.2.2), .int (zb wi), .int (zb mo), .int mv, .int fr, .int sh, .int gr, .int cp, .int ((m_fitR ow p0 ra).2.1), .int ((m_fitR ow p0 ra).2.2)])), (g2, .inl (cI, 48, .inl ow))] H := by rw [hE]; exact hP
          have hRr : 0 = zb ((m_fitR ow p0 ra).1) := by first | (rw [hE]; done) | (rw [hE]; rfl)
          exact W.zret (v := 0) (ty := .boolean) hx hb hr rfl (fun t ht hW => ⟨⟨z_ret hRr, by rw [ht]; exact hPz⟩, hS.F ht⟩) hS.2.2 dX4_fit_73
        · skip
          refine lv_iconst (v := 1) hx hb dX4_fit_68 (by decide) ?_
          refine lv_goto (tgt := 73) hx hb dX4_fit_69 (by decide) ?_
          have hE : m_fitR ow p0 ra = (true, ra1, rl1) := by rw [m_fitR, m_seg_e er (z48_e hj ex2 c_1)]; simp only [if_neg c_2]
          have hPz : va_P D vwCl [(h0, .inr (4, [.int code, .int (zb qq.1), .int qq.2.1, .int qq.2.2.1, .ref g1, .ref g2, .ref g3, .ref g4, .ref g5, .ref g6, .int (zb qq.2.2.2), .int (zb wi), .int (zb mo), .int mv, .int fr, .int sh, .int gr, .int cp, .int ((m_fitR ow p0 ra).2.1), .int ((m_fitR ow p0 ra).2.2)])), (g2, .inl (cI, 48, .inl ow))] H := by rw [hE]; exact hP
          have hRr : 1 = zb ((m_fitR ow p0 ra).1) := by first | (rw [hE]; done) | (rw [hE]; rfl)
          exact W.zret (v := 1) (ty := .boolean) hx hb hr rfl (fun t ht hW => ⟨⟨z_ret hRr, by rw [ht]; exact hPz⟩, hS.F ht⟩) hS.2.2 dX4_fit_73
      · skip
        refine lv_aload_n hx hb dX4_fit_14 rfl (lv_at hl 0 rfl) ?_
        refine lv_iload_n hx hb dX4_fit_15 rfl (lv_at hl 2 rfl) ?_
        refine z_callRi (va_runV (As := [.int x2]) (rest := []) ⟨hx, hb, hml, hown, hts⟩ (c_X4_runFrom l D cI h0 g1 g2 g3 g4 g5 g6 code qq wi mo mv fr sh gr cp ra1 rl1 ow x2 a9 ex2 (z48_s hj ex2 c_1)) (cwV 1 hts gX4_fit_X4_runFrom rfl rfl rfl qd_X4_runFrom ⟨Nat.le_of_ble_eq_true rfl, Nat.le_of_ble_eq_true rfl⟩) ⟨z_Pr_blind, va_recv hK hP (ci := 4) (q0 := 0) rfl rfl, fun U hU hW => ⟨rfl, by rw [hU]; exact hP, va_K.moved hW.alike hK⟩⟩ rfl rfl hl.1 rfl (lv_room (Nat.le_of_ble_eq_true rfl)) dX4_fit_16 ⟨Nat.le_of_ble_eq_true rfl, Nat.le_of_ble_eq_true rfl⟩) ?_
        refine lv_istore_n (lv' := [(3, .int (nI (m_rf ow a9))), (0, .ref h0), (1, .int p0), (2, .int x2)]) hx hb dX4_fit_19 rfl hl (by decide) rfl (fun ls hl => ?_)
        refine lv_aload_n hx hb dX4_fit_20 rfl (lv_at hl 1 rfl) ?_
        refine va_get (D := D) (ci := 4) (v := .ref g2) (C := RX4) (T := TX4) (N := 20) hx hb hts hin4 hown hK hP 0 rfl rfl 5 (by decide) hf21 (fun _ h9 => h9) rfl dX4_fit_21 ?_
        refine lv_iload_n hx hb dX4_fit_24 rfl (lv_at hl 3 rfl) ?_
        refine va_iald hx hb hK hP 1 0 rfl rfl (z_ix ex2 (z48_s hj ex2 c_1) (by decide)) dX4_fit_25 ?_
        refine W.eq (g2 := F0 m 26 ls [.int (ow a9)]) (by rw [z_ic ex2 (z48_s hj ex2 c_1) (by decide)]) ?_
        refine lv_if_ne (tgt := 52) hx hb dX4_fit_26 (by decide) (fun c_3 => ?_) (fun c_3 => ?_)
        · skip
          refine lv_iload_n hx hb dX4_fit_52 rfl (lv_at hl 3 rfl) ?_
          refine lv_iload_n hx hb dX4_fit_53 rfl (lv_at hl 0 rfl) ?_
          refine lv_iadd hx hb dX4_fit_54 ?_
          refine lv_istore_n (lv' := [(2, .int (x2 + (nI (m_rf ow a9)))), (3, .int (nI (m_rf ow a9))), (0, .ref h0), (1, .int p0)]) hx hb dX4_fit_55 rfl hl (by decide) rfl (fun ls hl => ?_)
          refine lv_goto (tgt := 8) hx hb dX4_fit_56 (by decide) ?_
          exact ih (a9 + m_rf ow a9) (x2 + (nI (m_rf ow a9))) ra1 rl1 (m_rf_le (z48_s hj ex2 c_1)) (by have h8 := m_rf_pos ow a9; omega) (z_pl ex2 rfl) (by have h9 := m_seg_s er (z48_s hj ex2 c_1); simp only [m_fitS, if_neg c_3] at h9; exact h9) H locs ls hP hD hS (lv_sub hl [2, 3, 0] rfl)
        · skip
          refine lv_iload_n hx hb dX4_fit_29 rfl (lv_at hl 0 rfl) ?_
          refine lv_iload_n hx hb dX4_fit_30 rfl (lv_at hl 2 rfl) ?_
          refine lv_icmp_lt (tgt := 52) hx hb dX4_fit_31 (by decide) (fun c_4 => ?_) (fun c_4 => ?_)
          · skip
            refine lv_iload_n hx hb dX4_fit_52 rfl (lv_at hl 3 rfl) ?_
            refine lv_iload_n hx hb dX4_fit_53 rfl (lv_at hl 0 rfl) ?_
            refine lv_iadd hx hb dX4_fit_54 ?_
            refine lv_istore_n (lv' := [(2, .int (x2 + (nI (m_rf ow a9)))), (3, .int (nI (m_rf ow a9))), (0, .ref h0), (1, .int p0)]) hx hb dX4_fit_55 rfl hl (by decide) rfl (fun ls hl => ?_)
            refine lv_goto (tgt := 8) hx hb dX4_fit_56 (by decide) ?_
            exact ih (a9 + m_rf ow a9) (x2 + (nI (m_rf ow a9))) ra1 rl1 (m_rf_le (z48_s hj ex2 c_1)) (by have h8 := m_rf_pos ow a9; omega) (z_pl ex2 rfl) (by have h9 := m_seg_s er (z48_s hj ex2 c_1); simp only [m_fitS, if_pos c_3, if_pos c_4] at h9; exact h9) H locs ls hP hD hS (lv_sub hl [2, 3, 0] rfl)
          · skip
            refine lv_iload_n hx hb dX4_fit_34 rfl (lv_at hl 0 rfl) ?_
            refine lv_aload_n hx hb dX4_fit_35 rfl (lv_at hl 1 rfl) ?_
            refine va_get (D := D) (ci := 4) (v := .int rl1) (C := RX4) (T := TX4) (N := 20) hx hb hts hin4 hown hK hP 0 rfl rfl 19 (by decide) hf56 (fun _ h9 => h9) rfl dX4_fit_36 ?_
            refine lv_icmp_ge (tgt := 52) hx hb dX4_fit_39 (by decide) (fun c_5 => ?_) (fun c_5 => ?_)
            · skip
              refine lv_iload_n hx hb dX4_fit_52 rfl (lv_at hl 3 rfl) ?_
              refine lv_iload_n hx hb dX4_fit_53 rfl (lv_at hl 0 rfl) ?_
              refine lv_iadd hx hb dX4_fit_54 ?_
              refine lv_istore_n (lv' := [(2, .int (x2 + (nI (m_rf ow a9)))), (3, .int (nI (m_rf ow a9))), (0, .ref h0), (1, .int p0)]) hx hb dX4_fit_55 rfl hl (by decide) rfl (fun ls hl => ?_)
              refine lv_goto (tgt := 8) hx hb dX4_fit_56 (by decide) ?_
              exact ih (a9 + m_rf ow a9) (x2 + (nI (m_rf ow a9))) ra1 rl1 (m_rf_le (z48_s hj ex2 c_1)) (by have h8 := m_rf_pos ow a9; omega) (z_pl ex2 rfl) (by have h9 := m_seg_s er (z48_s hj ex2 c_1); simp only [m_fitS, if_pos c_3, if_neg c_4, if_pos c_5] at h9; exact h9) H locs ls hP hD hS (lv_sub hl [2, 3, 0] rfl)
            · skip
              refine lv_aload_n hx hb dX4_fit_42 rfl (lv_at hl 1 rfl) ?_
              refine lv_iload_n hx hb dX4_fit_43 rfl (lv_at hl 3 rfl) ?_
              refine va_put (D := D) (ci := 4) (v := .int x2) (ty := .int) (C := RX4) (T := TX4) (N := 20) hx hb hts hin4 tyX4 tyX4_ok nmX4 hown hK hP hD hS 0 rfl rfl 18 (by decide) hf63 (fun _ h9 => h9) rfl (by decide +kernel) rfl rfl (Nat.le_of_ble_eq_true rfl) dX4_fit_44 (fun H locs hP hD hS => ?_)
              have hP : va_P D vwCl [(h0, .inr (4, [.int code, .int (zb qq.1), .int qq.2.1, .int qq.2.2.1, .ref g1, .ref g2, .ref g3, .ref g4, .ref g5, .ref g6, .int (zb qq.2.2.2), .int (zb wi), .int (zb mo), .int mv, .int fr, .int sh, .int gr, .int cp, .int x2, .int rl1])), (g2, .inl (cI, 48, .inl ow))] H := hP
              have hD : va_D A [(h0, .inr (4, [.int code, .int (zb qq.1), .int qq.2.1, .int qq.2.2.1, .ref g1, .ref g2, .ref g3, .ref g4, .ref g5, .ref g6, .int (zb qq.2.2.2), .int (zb wi), .int (zb mo), .int mv, .int fr, .int sh, .int gr, .int cp, .int x2, .int rl1])), (g2, .inl (cI, 48, .inl ow))] := hD
              refine lv_aload_n hx hb dX4_fit_47 rfl (lv_at hl 1 rfl) ?_
              refine lv_iload_n hx hb dX4_fit_48 rfl (lv_at hl 0 rfl) ?_
              refine va_put (D := D) (ci := 4) (v := .int (nI (m_rf ow a9))) (ty := .int) (C := RX4) (T := TX4) (N := 20) hx hb hts hin4 tyX4 tyX4_ok nmX4 hown hK hP hD hS 0 rfl rfl 19 (by decide) hf56 (fun _ h9 => h9) rfl (by decide +kernel) rfl rfl (Nat.le_of_ble_eq_true rfl) dX4_fit_49 (fun H locs hP hD hS => ?_)
              have hP : va_P D vwCl [(h0, .inr (4, [.int code, .int (zb qq.1), .int qq.2.1, .int qq.2.2.1, .ref g1, .ref g2, .ref g3, .ref g4, .ref g5, .ref g6, .int (zb qq.2.2.2), .int (zb wi), .int (zb mo), .int mv, .int fr, .int sh, .int gr, .int cp, .int x2, .int (nI (m_rf ow a9))])), (g2, .inl (cI, 48, .inl ow))] H := hP
              have hD : va_D A [(h0, .inr (4, [.int code, .int (zb qq.1), .int qq.2.1, .int qq.2.2.1, .ref g1, .ref g2, .ref g3, .ref g4, .ref g5, .ref g6, .int (zb qq.2.2.2), .int (zb wi), .int (zb mo), .int mv, .int fr, .int sh, .int gr, .int cp, .int x2, .int (nI (m_rf ow a9))])), (g2, .inl (cI, 48, .inl ow))] := hD
              refine lv_iload_n hx hb dX4_fit_52 rfl (lv_at hl 3 rfl) ?_
              refine lv_iload_n hx hb dX4_fit_53 rfl (lv_at hl 0 rfl) ?_
              refine lv_iadd hx hb dX4_fit_54 ?_
              refine lv_istore_n (lv' := [(2, .int (x2 + (nI (m_rf ow a9)))), (3, .int (nI (m_rf ow a9))), (0, .ref h0), (1, .int p0)]) hx hb dX4_fit_55 rfl hl (by decide) rfl (fun ls hl => ?_)
              refine lv_goto (tgt := 8) hx hb dX4_fit_56 (by decide) ?_
              exact ih (a9 + m_rf ow a9) (x2 + (nI (m_rf ow a9))) x2 (nI (m_rf ow a9)) (m_rf_le (z48_s hj ex2 c_1)) (by have h8 := m_rf_pos ow a9; omega) (z_pl ex2 rfl) (by have h9 := m_seg_s er (z48_s hj ex2 c_1); simp only [m_fitS, if_pos c_3, if_neg c_4, if_neg c_5] at h9; rw [ex2]; exact h9) H locs ls hP hD hS (lv_sub hl [2, 3, 0] rfl)
  refine lv_aload_n hx hb dX4_fit_0 rfl (lv_at hl 0 rfl) ?_
  refine lv_bipush (v := 99) hx hb dX4_fit_1 (by decide) ?_
  refine va_put (D := D) (ci := 4) (v := .int 99) (ty := .int) (C := RX4) (T := TX4) (N := 20) hx hb hts hin4 tyX4 tyX4_ok nmX4 hown hK hP hD hS 0 rfl rfl 19 (by decide) hf56 (fun _ h9 => h9) rfl (by decide +kernel) rfl rfl (Nat.le_of_ble_eq_true rfl) dX4_fit_3 (fun H locs hP hD hS => ?_)
  have hP : va_P D vwCl [(h0, .inr (4, [.int code, .int (zb qq.1), .int qq.2.1, .int qq.2.2.1, .ref g1, .ref g2, .ref g3, .ref g4, .ref g5, .ref g6, .int (zb qq.2.2.2), .int (zb wi), .int (zb mo), .int mv, .int fr, .int sh, .int gr, .int cp, .int ra, .int 99])), (g2, .inl (cI, 48, .inl ow))] H := hP
  have hD : va_D A [(h0, .inr (4, [.int code, .int (zb qq.1), .int qq.2.1, .int qq.2.2.1, .ref g1, .ref g2, .ref g3, .ref g4, .ref g5, .ref g6, .int (zb qq.2.2.2), .int (zb wi), .int (zb mo), .int mv, .int fr, .int sh, .int gr, .int cp, .int ra, .int 99])), (g2, .inl (cI, 48, .inl ow))] := hD
  refine lv_iconst (v := 0) hx hb dX4_fit_6 (by decide) ?_
  refine lv_istore_n (lv' := [(2, .int 0), (0, .ref h0), (1, .int p0)]) hx hb dX4_fit_7 rfl hl (by decide) rfl (fun ls hl => ?_)
  exact L8 49 0 0 ra 99 (Nat.zero_le _) (by decide) nI_0.symm rfl H locs ls hP hD hS (lv_sub hl [1, 2, 0] rfl)
theorem qd_X4_longest : yX4_longest.cls = RX4 ∧ yX4_longest.cls ≠ "java/lang/invoke/MethodHandle" ∧ yX4_longest.cls ≠ "java/lang/invoke/VarHandle" ∧ (parseMethodDescriptor yX4_longest.desc).map (fun d => d.parameters.length) = some 1 := by decide +kernel
set_option maxHeartbeats 400000 in
set_option maxRecDepth 100000 in
/-- longest -/
theorem c_X4_longest (l : Launch) (D : va_G) (cI : ClassId) (h0 : Nat) (g1 : Nat) (g2 : Nat) (g3 : Nat) (g4 : Nat) (g5 : Nat) (g6 : Nat) (code : Int32) (qq : zQ) (wi : Bool) (mo : Bool) (mv : Int32) (fr : Int32) (sh : Int32) (gr : Int32) (cp : Int32) (ra : Int32) (rl : Int32) (ow : zA) (p0 : Int32) : Met l yX4_longest wsX4_longest ({ frames := 1, cells := 0, slots := 0, locals := 22 }) (z_Pr D cI [.ref h0, .int p0] [(h0, .inr (4, [.int code, .int (zb qq.1), .int qq.2.1, .int qq.2.2.1, .ref g1, .ref g2, .ref g3, .ref g4, .ref g5, .ref g6, .int (zb qq.2.2.2), .int (zb wi), .int (zb mo), .int mv, .int fr, .int sh, .int gr, .int cp, .int ra, .int rl])), (g2, .inl (cI, 48, .inl ow))]) (z_Ro (some (.int (m_lon ow p0)))) 0 0 (fun _ => False) := by
  refine Met.ofW (cc := cX4_longest) (maxL := 6) (ret := (some .int)) (by decide) rfl ?_
  intro p e s m args below meth c s₁ B hml hv
  obtain ⟨rfl, hP, hK⟩ := hv
  have hx := B.exec
  have hb := B.bytes
  have hr := B.returns
  have hts := atoms_spec (ws := wsX4_longest) B.pre
  have hown : s.vm.findClass RX4 = some m.cls := findClass_of_methodNamed B.named
  have hlocks := B.notSynchronized
  have hP : va_P D vwCl [(h0, .inr (4, [.int code, .int (zb qq.1), .int qq.2.1, .int qq.2.2.1, .ref g1, .ref g2, .ref g3, .ref g4, .ref g5, .ref g6, .int (zb qq.2.2.2), .int (zb wi), .int (zb mo), .int mv, .int fr, .int sh, .int gr, .int cp, .int ra, .int rl])), (g2, .inl (cI, 48, .inl ow))] s.heap := hP
  have hl := lv_entry ([.ref h0, .int p0]) (n := 6) (Nat.le_of_ble_eq_true rfl)
  rw [lg_entry_eq]
  generalize (lg_sl ([.ref h0, .int p0]) ++ List.replicate (6 - (lg_sl ([.ref h0, .int p0])).length) Slot.unset).toArray = ls at hl ⊢
  have hl : lv_has ls 6 [(0, .ref h0), (1, .int p0)] := hl
  have hin4 : ∀ w ∈ wsX40, w ∈ wsX4_longest := by decide +kernel
  have hf21 := hts (.fieldLink RX4 21 "SqueezedVolumeModel" "owner" "[I") (by decide +kernel)
  have L7 : ∀ (k : Nat) (a9 : Nat) (x4 : Int32) (x2 : Int32) (x3 : Int32), (a9 ≤ 48) → (48 + 1 ≤ a9 + k) → (x4 = nI a9) → ((m_segF ow k a9).foldl (m_lonS ow) (x2, x3) = m_lonP ow) → ∀ (ls : Array Slot), lv_has ls 6 [(0, .ref h0), (1, .int p0), (2, .int x2), (3, .int x3), (4, .int x4)] → W p l e ({ frames := 1, cells := 0, slots := 0, locals := 22 }) s m ([.ref h0, .int p0] : List Value).toArray below meth c s.heap [] 0 0 (MQ below (z_Ro (some (.int (m_lon ow p0)))) ([.ref h0, .int p0] : List Value).toArray s 0 0 (fun _ => False)) (F0 m 7 ls []) := by
    intro k
    induction k with
    | zero =>
      intro a9 x4 x2 x3 hj hk ex4 er
      exfalso; omega
    | succ k ih =>
      intro a9 x4 x2 x3 hj hk ex4 er
      intro ls hl
      refine lv_iload hx hb dX4_longest_7 (lv_at hl 4 rfl) ?_
      refine lv_bipush (v := 48) hx hb dX4_longest_9 (by decide) ?_
      refine lv_icmp_ge (tgt := 86) hx hb dX4_longest_11 (by decide) (fun c_1 => ?_) (fun c_1 => ?_)
      · skip
        refine lv_iload_n hx hb dX4_longest_86 rfl (lv_at hl 1 rfl) ?_
        refine lv_if_eq (tgt := 94) hx hb dX4_longest_87 (by decide) (fun c_2 => ?_) (fun c_2 => ?_)
        · skip
          refine lv_iload_n hx hb dX4_longest_94 rfl (lv_at hl 2 rfl) ?_
          exact W.iret (v := x2) hx hb hr (fun t ht hW => ⟨z_ret (by rw [m_lon, m_seg_e er (z48_e hj ex4 c_1)]; simp only [if_pos c_2]), ht⟩) (fun _ h => nomatch h) dX4_longest_95
        · skip
          refine lv_iload_n hx hb dX4_longest_90 rfl (lv_at hl 3 rfl) ?_
          refine lv_goto (tgt := 95) hx hb dX4_longest_91 (by decide) ?_
          exact W.iret (v := x3) hx hb hr (fun t ht hW => ⟨z_ret (by rw [m_lon, m_seg_e er (z48_e hj ex4 c_1)]; simp only [if_neg c_2]), ht⟩) (fun _ h => nomatch h) dX4_longest_95
      · skip
        refine lv_aload_n hx hb dX4_longest_14 rfl (lv_at hl 0 rfl) ?_
        refine va_get (D := D) (ci := 4) (v := .ref g2) (C := RX4) (T := TX4) (N := 20) hx hb hts hin4 hown hK hP 0 rfl rfl 5 (by decide) hf21 (fun _ h9 => h9) rfl dX4_longest_15 ?_
        refine lv_iload hx hb dX4_longest_18 (lv_at hl 4 rfl) ?_
        refine va_iald hx hb hK hP 1 0 rfl rfl (z_ix ex4 (z48_s hj ex4 c_1) (by decide)) dX4_longest_20 ?_
        refine W.eq (g2 := F0 m 21 ls [.int (ow a9)]) (by rw [z_ic ex4 (z48_s hj ex4 c_1) (by decide)]) ?_
        refine lv_if_ne (tgt := 33) hx hb dX4_longest_21 (by decide) (fun c_3 => ?_) (fun c_3 => ?_)
        · skip
          refine lv_iconst (v := 0) hx hb dX4_longest_33 (by decide) ?_
          refine lv_istore (lv' := [(5, .int 0), (0, .ref h0), (1, .int p0), (2, .int x2), (3, .int x3), (4, .int x4)]) hx hb dX4_longest_34 hl (by decide) rfl (fun ls hl => ?_)
          refine lv_iload hx hb dX4_longest_36 (lv_at hl 0 rfl) ?_
          refine lv_iload_n hx hb dX4_longest_38 rfl (lv_at hl 3 rfl) ?_
          refine lv_icmp_le (tgt := 46) hx hb dX4_longest_39 (by decide) (fun c_4 => ?_) (fun c_4 => ?_)
          · skip
            refine lv_iload hx hb dX4_longest_46 (lv_at hl 0 rfl) ?_
            refine lv_iload_n hx hb dX4_longest_48 rfl (lv_at hl 4 rfl) ?_
            refine lv_icmp_le (tgt := 57) hx hb dX4_longest_49 (by decide) (fun c_5 => ?_) (fun c_5 => ?_)
            · skip
              refine lv_iload_n hx hb dX4_longest_57 rfl (lv_at hl 4 rfl) ?_
              refine lv_istore_n (lv' := [(3, .int x3), (5, .int 0), (0, .ref h0), (1, .int p0), (2, .int x2), (4, .int x4)]) hx hb dX4_longest_58 rfl hl (by decide) rfl (fun ls hl => ?_)
              refine lv_iload hx hb dX4_longest_59 (lv_at hl 1 rfl) ?_
              refine lv_iload_n hx hb dX4_longest_61 rfl (lv_at hl 4 rfl) ?_
              refine lv_icmp_le (tgt := 70) hx hb dX4_longest_62 (by decide) (fun c_6 => ?_) (fun c_6 => ?_)
              · skip
                refine lv_iload_n hx hb dX4_longest_70 rfl (lv_at hl 4 rfl) ?_
                refine lv_istore_n (lv' := [(2, .int x2), (3, .int x3), (5, .int 0), (0, .ref h0), (1, .int p0), (4, .int x4)]) hx hb dX4_longest_71 rfl hl (by decide) rfl (fun ls hl => ?_)
                refine lv_iload hx hb dX4_longest_72 (lv_at hl 5 rfl) ?_
                refine lv_aload_n hx hb dX4_longest_74 rfl (lv_at hl 3 rfl) ?_
                refine lv_iload hx hb dX4_longest_75 (lv_at hl 5 rfl) ?_
                refine z_callRi (va_runV (As := [.int x4]) (rest := [.int x4]) ⟨hx, hb, hml, hown, hts⟩ (c_X4_runFrom l D cI h0 g1 g2 g3 g4 g5 g6 code qq wi mo mv fr sh gr cp ra rl ow x4 a9 ex4 (z48_s hj ex4 c_1)) (cwV 1 hts gX4_longest_X4_runFrom rfl rfl rfl qd_X4_runFrom ⟨Nat.le_of_ble_eq_true rfl, Nat.le_of_ble_eq_true rfl⟩) ⟨z_Pr_blind, va_recv hK hP (ci := 4) (q0 := 0) rfl rfl, fun U hU hW => ⟨rfl, by rw [hU]; exact hP, va_K.moved hW.alike hK⟩⟩ rfl rfl hl.1 rfl (lv_room (Nat.le_of_ble_eq_true rfl)) dX4_longest_77 ⟨Nat.le_of_ble_eq_true rfl, Nat.le_of_ble_eq_true rfl⟩) ?_
                refine lv_iadd hx hb dX4_longest_80 ?_
                refine lv_istore (lv' := [(4, .int (x4 + (nI (m_rf ow a9)))), (2, .int x2), (3, .int x3), (5, .int 0), (0, .ref h0), (1, .int p0)]) hx hb dX4_longest_81 hl (by decide) rfl (fun ls hl => ?_)
                refine lv_goto (tgt := 7) hx hb dX4_longest_83 (by decide) ?_
                exact ih (a9 + m_rf ow a9) (x4 + (nI (m_rf ow a9))) x2 x3 (m_rf_le (z48_s hj ex4 c_1)) (by have h8 := m_rf_pos ow a9; omega) (z_pl ex4 rfl) (by have h9 := m_seg_s er (z48_s hj ex4 c_1); simp only [m_lonS, m_lonN, if_neg c_3, if_pos c_4, if_pos c_5] at h9; exact h9) ls (lv_sub hl [4, 5, 1, 2, 0] rfl)
              · skip
                exact absurd c_4 c_6
            · skip
              refine lv_iload hx hb dX4_longest_52 (lv_at hl 0 rfl) ?_
              refine lv_goto (tgt := 58) hx hb dX4_longest_54 (by decide) ?_
              refine lv_istore_n (lv' := [(3, .int 0), (5, .int 0), (0, .ref h0), (1, .int p0), (2, .int x2), (4, .int x4)]) hx hb dX4_longest_58 rfl hl (by decide) rfl (fun ls hl => ?_)
              refine lv_iload hx hb dX4_longest_59 (lv_at hl 1 rfl) ?_
              refine lv_iload_n hx hb dX4_longest_61 rfl (lv_at hl 4 rfl) ?_
              refine lv_icmp_le (tgt := 70) hx hb dX4_longest_62 (by decide) (fun c_7 => ?_) (fun c_7 => ?_)
              · skip
                refine lv_iload_n hx hb dX4_longest_70 rfl (lv_at hl 4 rfl) ?_
                refine lv_istore_n (lv' := [(2, .int x2), (3, .int 0), (5, .int 0), (0, .ref h0), (1, .int p0), (4, .int x4)]) hx hb dX4_longest_71 rfl hl (by decide) rfl (fun ls hl => ?_)
                refine lv_iload hx hb dX4_longest_72 (lv_at hl 5 rfl) ?_
                refine lv_aload_n hx hb dX4_longest_74 rfl (lv_at hl 3 rfl) ?_
                refine lv_iload hx hb dX4_longest_75 (lv_at hl 5 rfl) ?_
                refine z_callRi (va_runV (As := [.int x4]) (rest := [.int x4]) ⟨hx, hb, hml, hown, hts⟩ (c_X4_runFrom l D cI h0 g1 g2 g3 g4 g5 g6 code qq wi mo mv fr sh gr cp ra rl ow x4 a9 ex4 (z48_s hj ex4 c_1)) (cwV 1 hts gX4_longest_X4_runFrom rfl rfl rfl qd_X4_runFrom ⟨Nat.le_of_ble_eq_true rfl, Nat.le_of_ble_eq_true rfl⟩) ⟨z_Pr_blind, va_recv hK hP (ci := 4) (q0 := 0) rfl rfl, fun U hU hW => ⟨rfl, by rw [hU]; exact hP, va_K.moved hW.alike hK⟩⟩ rfl rfl hl.1 rfl (lv_room (Nat.le_of_ble_eq_true rfl)) dX4_longest_77 ⟨Nat.le_of_ble_eq_true rfl, Nat.le_of_ble_eq_true rfl⟩) ?_
                refine lv_iadd hx hb dX4_longest_80 ?_
                refine lv_istore (lv' := [(4, .int (x4 + (nI (m_rf ow a9)))), (2, .int x2), (3, .int 0), (5, .int 0), (0, .ref h0), (1, .int p0)]) hx hb dX4_longest_81 hl (by decide) rfl (fun ls hl => ?_)
                refine lv_goto (tgt := 7) hx hb dX4_longest_83 (by decide) ?_
                exact ih (a9 + m_rf ow a9) (x4 + (nI (m_rf ow a9))) x2 0 (m_rf_le (z48_s hj ex4 c_1)) (by have h8 := m_rf_pos ow a9; omega) (z_pl ex4 rfl) (by have h9 := m_seg_s er (z48_s hj ex4 c_1); simp only [m_lonS, m_lonN, if_neg c_3, if_pos c_4, if_neg c_5] at h9; exact h9) ls (lv_sub hl [4, 5, 1, 2, 0] rfl)
              · skip
                exact absurd c_4 c_7
          · skip
            refine lv_iload_n hx hb dX4_longest_42 rfl (lv_at hl 3 rfl) ?_
            refine lv_goto (tgt := 58) hx hb dX4_longest_43 (by decide) ?_
            refine lv_istore_n (lv' := [(3, .int x2), (5, .int 0), (0, .ref h0), (1, .int p0), (2, .int x2), (4, .int x4)]) hx hb dX4_longest_58 rfl hl (by decide) rfl (fun ls hl => ?_)
            refine lv_iload hx hb dX4_longest_59 (lv_at hl 1 rfl) ?_
            refine lv_iload_n hx hb dX4_longest_61 rfl (lv_at hl 4 rfl) ?_
            refine lv_icmp_le (tgt := 70) hx hb dX4_longest_62 (by decide) (fun c_8 => ?_) (fun c_8 => ?_)
            · skip
              exact absurd c_8 c_4
            · skip
              refine lv_iload hx hb dX4_longest_65 (lv_at hl 1 rfl) ?_
              refine lv_goto (tgt := 71) hx hb dX4_longest_67 (by decide) ?_
              refine lv_istore_n (lv' := [(2, .int 0), (3, .int x2), (5, .int 0), (0, .ref h0), (1, .int p0), (4, .int x4)]) hx hb dX4_longest_71 rfl hl (by decide) rfl (fun ls hl => ?_)
              refine lv_iload hx hb dX4_longest_72 (lv_at hl 5 rfl) ?_
              refine lv_aload_n hx hb dX4_longest_74 rfl (lv_at hl 3 rfl) ?_
              refine lv_iload hx hb dX4_longest_75 (lv_at hl 5 rfl) ?_
              refine z_callRi (va_runV (As := [.int x4]) (rest := [.int x4]) ⟨hx, hb, hml, hown, hts⟩ (c_X4_runFrom l D cI h0 g1 g2 g3 g4 g5 g6 code qq wi mo mv fr sh gr cp ra rl ow x4 a9 ex4 (z48_s hj ex4 c_1)) (cwV 1 hts gX4_longest_X4_runFrom rfl rfl rfl qd_X4_runFrom ⟨Nat.le_of_ble_eq_true rfl, Nat.le_of_ble_eq_true rfl⟩) ⟨z_Pr_blind, va_recv hK hP (ci := 4) (q0 := 0) rfl rfl, fun U hU hW => ⟨rfl, by rw [hU]; exact hP, va_K.moved hW.alike hK⟩⟩ rfl rfl hl.1 rfl (lv_room (Nat.le_of_ble_eq_true rfl)) dX4_longest_77 ⟨Nat.le_of_ble_eq_true rfl, Nat.le_of_ble_eq_true rfl⟩) ?_
              refine lv_iadd hx hb dX4_longest_80 ?_
              refine lv_istore (lv' := [(4, .int (x4 + (nI (m_rf ow a9)))), (2, .int 0), (3, .int x2), (5, .int 0), (0, .ref h0), (1, .int p0)]) hx hb dX4_longest_81 hl (by decide) rfl (fun ls hl => ?_)
              refine lv_goto (tgt := 7) hx hb dX4_longest_83 (by decide) ?_
              exact ih (a9 + m_rf ow a9) (x4 + (nI (m_rf ow a9))) 0 x2 (m_rf_le (z48_s hj ex4 c_1)) (by have h8 := m_rf_pos ow a9; omega) (z_pl ex4 rfl) (by have h9 := m_seg_s er (z48_s hj ex4 c_1); simp only [m_lonS, m_lonN, if_neg c_3, if_neg c_4] at h9; exact h9) ls (lv_sub hl [4, 5, 1, 2, 0] rfl)
        · skip
          refine lv_aload_n hx hb dX4_longest_24 rfl (lv_at hl 0 rfl) ?_
          refine lv_iload hx hb dX4_longest_25 (lv_at hl 4 rfl) ?_
          refine z_callRi (va_runV (As := [.int x4]) (rest := []) ⟨hx, hb, hml, hown, hts⟩ (c_X4_runFrom l D cI h0 g1 g2 g3 g4 g5 g6 code qq wi mo mv fr sh gr cp ra rl ow x4 a9 ex4 (z48_s hj ex4 c_1)) (cwV 1 hts gX4_longest_X4_runFrom rfl rfl rfl qd_X4_runFrom ⟨Nat.le_of_ble_eq_true rfl, Nat.le_of_ble_eq_true rfl⟩) ⟨z_Pr_blind, va_recv hK hP (ci := 4) (q0 := 0) rfl rfl, fun U hU hW => ⟨rfl, by rw [hU]; exact hP, va_K.moved hW.alike hK⟩⟩ rfl rfl hl.1 rfl (lv_room (Nat.le_of_ble_eq_true rfl)) dX4_longest_27 ⟨Nat.le_of_ble_eq_true rfl, Nat.le_of_ble_eq_true rfl⟩) ?_
          refine lv_goto (tgt := 34) hx hb dX4_longest_30 (by decide) ?_
          refine lv_istore (lv' := [(5, .int (nI (m_rf ow a9))), (0, .ref h0), (1, .int p0), (2, .int x2), (3, .int x3), (4, .int x4)]) hx hb dX4_longest_34 hl (by decide) rfl (fun ls hl => ?_)
          refine lv_iload hx hb dX4_longest_36 (lv_at hl 0 rfl) ?_
          refine lv_iload_n hx hb dX4_longest_38 rfl (lv_at hl 3 rfl) ?_
          refine lv_icmp_le (tgt := 46) hx hb dX4_longest_39 (by decide) (fun c_9 => ?_) (fun c_9 => ?_)
          · skip
            refine lv_iload hx hb dX4_longest_46 (lv_at hl 0 rfl) ?_
            refine lv_iload_n hx hb dX4_longest_48 rfl (lv_at hl 4 rfl) ?_
            refine lv_icmp_le (tgt := 57) hx hb dX4_longest_49 (by decide) (fun c_10 => ?_) (fun c_10 => ?_)
            · skip
              refine lv_iload_n hx hb dX4_longest_57 rfl (lv_at hl 4 rfl) ?_
              refine lv_istore_n (lv' := [(3, .int x3), (5, .int (nI (m_rf ow a9))), (0, .ref h0), (1, .int p0), (2, .int x2), (4, .int x4)]) hx hb dX4_longest_58 rfl hl (by decide) rfl (fun ls hl => ?_)
              refine lv_iload hx hb dX4_longest_59 (lv_at hl 1 rfl) ?_
              refine lv_iload_n hx hb dX4_longest_61 rfl (lv_at hl 4 rfl) ?_
              refine lv_icmp_le (tgt := 70) hx hb dX4_longest_62 (by decide) (fun c_11 => ?_) (fun c_11 => ?_)
              · skip
                refine lv_iload_n hx hb dX4_longest_70 rfl (lv_at hl 4 rfl) ?_
                refine lv_istore_n (lv' := [(2, .int x2), (3, .int x3), (5, .int (nI (m_rf ow a9))), (0, .ref h0), (1, .int p0), (4, .int x4)]) hx hb dX4_longest_71 rfl hl (by decide) rfl (fun ls hl => ?_)
                refine lv_iload hx hb dX4_longest_72 (lv_at hl 5 rfl) ?_
                refine lv_aload_n hx hb dX4_longest_74 rfl (lv_at hl 3 rfl) ?_
                refine lv_iload hx hb dX4_longest_75 (lv_at hl 5 rfl) ?_
                refine z_callRi (va_runV (As := [.int x4]) (rest := [.int x4]) ⟨hx, hb, hml, hown, hts⟩ (c_X4_runFrom l D cI h0 g1 g2 g3 g4 g5 g6 code qq wi mo mv fr sh gr cp ra rl ow x4 a9 ex4 (z48_s hj ex4 c_1)) (cwV 1 hts gX4_longest_X4_runFrom rfl rfl rfl qd_X4_runFrom ⟨Nat.le_of_ble_eq_true rfl, Nat.le_of_ble_eq_true rfl⟩) ⟨z_Pr_blind, va_recv hK hP (ci := 4) (q0 := 0) rfl rfl, fun U hU hW => ⟨rfl, by rw [hU]; exact hP, va_K.moved hW.alike hK⟩⟩ rfl rfl hl.1 rfl (lv_room (Nat.le_of_ble_eq_true rfl)) dX4_longest_77 ⟨Nat.le_of_ble_eq_true rfl, Nat.le_of_ble_eq_true rfl⟩) ?_
                refine lv_iadd hx hb dX4_longest_80 ?_
                refine lv_istore (lv' := [(4, .int (x4 + (nI (m_rf ow a9)))), (2, .int x2), (3, .int x3), (5, .int (nI (m_rf ow a9))), (0, .ref h0), (1, .int p0)]) hx hb dX4_longest_81 hl (by decide) rfl (fun ls hl => ?_)
                refine lv_goto (tgt := 7) hx hb dX4_longest_83 (by decide) ?_
                exact ih (a9 + m_rf ow a9) (x4 + (nI (m_rf ow a9))) x2 x3 (m_rf_le (z48_s hj ex4 c_1)) (by have h8 := m_rf_pos ow a9; omega) (z_pl ex4 rfl) (by have h9 := m_seg_s er (z48_s hj ex4 c_1); simp only [m_lonS, m_lonN, if_pos c_3, if_pos c_9, if_pos c_10] at h9; exact h9) ls (lv_sub hl [4, 5, 1, 2, 0] rfl)
              · skip
                exact absurd c_9 c_11
            · skip
              refine lv_iload hx hb dX4_longest_52 (lv_at hl 0 rfl) ?_
              refine lv_goto (tgt := 58) hx hb dX4_longest_54 (by decide) ?_
              refine lv_istore_n (lv' := [(3, .int (nI (m_rf ow a9))), (5, .int (nI (m_rf ow a9))), (0, .ref h0), (1, .int p0), (2, .int x2), (4, .int x4)]) hx hb dX4_longest_58 rfl hl (by decide) rfl (fun ls hl => ?_)
              refine lv_iload hx hb dX4_longest_59 (lv_at hl 1 rfl) ?_
              refine lv_iload_n hx hb dX4_longest_61 rfl (lv_at hl 4 rfl) ?_
              refine lv_icmp_le (tgt := 70) hx hb dX4_longest_62 (by decide) (fun c_12 => ?_) (fun c_12 => ?_)
              · skip
                refine lv_iload_n hx hb dX4_longest_70 rfl (lv_at hl 4 rfl) ?_
                refine lv_istore_n (lv' := [(2, .int x2), (3, .int (nI (m_rf ow a9))), (5, .int (nI (m_rf ow a9))), (0, .ref h0), (1, .int p0), (4, .int x4)]) hx hb dX4_longest_71 rfl hl (by decide) rfl (fun ls hl => ?_)
                refine lv_iload hx hb dX4_longest_72 (lv_at hl 5 rfl) ?_
                refine lv_aload_n hx hb dX4_longest_74 rfl (lv_at hl 3 rfl) ?_
                refine lv_iload hx hb dX4_longest_75 (lv_at hl 5 rfl) ?_
                refine z_callRi (va_runV (As := [.int x4]) (rest := [.int x4]) ⟨hx, hb, hml, hown, hts⟩ (c_X4_runFrom l D cI h0 g1 g2 g3 g4 g5 g6 code qq wi mo mv fr sh gr cp ra rl ow x4 a9 ex4 (z48_s hj ex4 c_1)) (cwV 1 hts gX4_longest_X4_runFrom rfl rfl rfl qd_X4_runFrom ⟨Nat.le_of_ble_eq_true rfl, Nat.le_of_ble_eq_true rfl⟩) ⟨z_Pr_blind, va_recv hK hP (ci := 4) (q0 := 0) rfl rfl, fun U hU hW => ⟨rfl, by rw [hU]; exact hP, va_K.moved hW.alike hK⟩⟩ rfl rfl hl.1 rfl (lv_room (Nat.le_of_ble_eq_true rfl)) dX4_longest_77 ⟨Nat.le_of_ble_eq_true rfl, Nat.le_of_ble_eq_true rfl⟩) ?_
                refine lv_iadd hx hb dX4_longest_80 ?_
                refine lv_istore (lv' := [(4, .int (x4 + (nI (m_rf ow a9)))), (2, .int x2), (3, .int (nI (m_rf ow a9))), (5, .int (nI (m_rf ow a9))), (0, .ref h0), (1, .int p0)]) hx hb dX4_longest_81 hl (by decide) rfl (fun ls hl => ?_)
                refine lv_goto (tgt := 7) hx hb dX4_longest_83 (by decide) ?_
                exact ih (a9 + m_rf ow a9) (x4 + (nI (m_rf ow a9))) x2 (nI (m_rf ow a9)) (m_rf_le (z48_s hj ex4 c_1)) (by have h8 := m_rf_pos ow a9; omega) (z_pl ex4 rfl) (by have h9 := m_seg_s er (z48_s hj ex4 c_1); simp only [m_lonS, m_lonN, if_pos c_3, if_pos c_9, if_neg c_10] at h9; exact h9) ls (lv_sub hl [4, 5, 1, 2, 0] rfl)
              · skip
                exact absurd c_9 c_12
          · skip
            refine lv_iload_n hx hb dX4_longest_42 rfl (lv_at hl 3 rfl) ?_
            refine lv_goto (tgt := 58) hx hb dX4_longest_43 (by decide) ?_
            refine lv_istore_n (lv' := [(3, .int x2), (5, .int (nI (m_rf ow a9))), (0, .ref h0), (1, .int p0), (2, .int x2), (4, .int x4)]) hx hb dX4_longest_58 rfl hl (by decide) rfl (fun ls hl => ?_)
            refine lv_iload hx hb dX4_longest_59 (lv_at hl 1 rfl) ?_
            refine lv_iload_n hx hb dX4_longest_61 rfl (lv_at hl 4 rfl) ?_
            refine lv_icmp_le (tgt := 70) hx hb dX4_longest_62 (by decide) (fun c_13 => ?_) (fun c_13 => ?_)
            · skip
              exact absurd c_13 c_9
            · skip
              refine lv_iload hx hb dX4_longest_65 (lv_at hl 1 rfl) ?_
              refine lv_goto (tgt := 71) hx hb dX4_longest_67 (by decide) ?_
              refine lv_istore_n (lv' := [(2, .int (nI (m_rf ow a9))), (3, .int x2), (5, .int (nI (m_rf ow a9))), (0, .ref h0), (1, .int p0), (4, .int x4)]) hx hb dX4_longest_71 rfl hl (by decide) rfl (fun ls hl => ?_)
              refine lv_iload hx hb dX4_longest_72 (lv_at hl 5 rfl) ?_
              refine lv_aload_n hx hb dX4_longest_74 rfl (lv_at hl 3 rfl) ?_
              refine lv_iload hx hb dX4_longest_75 (lv_at hl 5 rfl) ?_
              refine z_callRi (va_runV (As := [.int x4]) (rest := [.int x4]) ⟨hx, hb, hml, hown, hts⟩ (c_X4_runFrom l D cI h0 g1 g2 g3 g4 g5 g6 code qq wi mo mv fr sh gr cp ra rl ow x4 a9 ex4 (z48_s hj ex4 c_1)) (cwV 1 hts gX4_longest_X4_runFrom rfl rfl rfl qd_X4_runFrom ⟨Nat.le_of_ble_eq_true rfl, Nat.le_of_ble_eq_true rfl⟩) ⟨z_Pr_blind, va_recv hK hP (ci := 4) (q0 := 0) rfl rfl, fun U hU hW => ⟨rfl, by rw [hU]; exact hP, va_K.moved hW.alike hK⟩⟩ rfl rfl hl.1 rfl (lv_room (Nat.le_of_ble_eq_true rfl)) dX4_longest_77 ⟨Nat.le_of_ble_eq_true rfl, Nat.le_of_ble_eq_true rfl⟩) ?_
              refine lv_iadd hx hb dX4_longest_80 ?_
              refine lv_istore (lv' := [(4, .int (x4 + (nI (m_rf ow a9)))), (2, .int (nI (m_rf ow a9))), (3, .int x2), (5, .int (nI (m_rf ow a9))), (0, .ref h0), (1, .int p0)]) hx hb dX4_longest_81 hl (by decide) rfl (fun ls hl => ?_)
              refine lv_goto (tgt := 7) hx hb dX4_longest_83 (by decide) ?_
              exact ih (a9 + m_rf ow a9) (x4 + (nI (m_rf ow a9))) (nI (m_rf ow a9)) x2 (m_rf_le (z48_s hj ex4 c_1)) (by have h8 := m_rf_pos ow a9; omega) (z_pl ex4 rfl) (by have h9 := m_seg_s er (z48_s hj ex4 c_1); simp only [m_lonS, m_lonN, if_pos c_3, if_neg c_9] at h9; exact h9) ls (lv_sub hl [4, 5, 1, 2, 0] rfl)
  refine lv_iconst (v := 0) hx hb dX4_longest_0 (by decide) ?_
  refine lv_istore_n (lv' := [(2, .int 0), (0, .ref h0), (1, .int p0)]) hx hb dX4_longest_1 rfl hl (by decide) rfl (fun ls hl => ?_)
  refine lv_iconst (v := 0) hx hb dX4_longest_2 (by decide) ?_
  refine lv_istore_n (lv' := [(3, .int 0), (2, .int 0), (0, .ref h0), (1, .int p0)]) hx hb dX4_longest_3 rfl hl (by decide) rfl (fun ls hl => ?_)
  refine lv_iconst (v := 0) hx hb dX4_longest_4 (by decide) ?_
  refine lv_istore (lv' := [(4, .int 0), (3, .int 0), (2, .int 0), (0, .ref h0), (1, .int p0)]) hx hb dX4_longest_5 hl (by decide) rfl (fun ls hl => ?_)
  exact L7 49 0 0 0 0 (Nat.zero_le _) (by decide) nI_0.symm rfl ls (lv_sub hl [3, 4, 2, 1, 0] rfl)
theorem qd_X4_findMover : yX4_findMover.cls = RX4 ∧ yX4_findMover.cls ≠ "java/lang/invoke/MethodHandle" ∧ yX4_findMover.cls ≠ "java/lang/invoke/VarHandle" ∧ (parseMethodDescriptor yX4_findMover.desc).map (fun d => d.parameters.length) = some 0 := by decide +kernel
set_option maxHeartbeats 400000 in
set_option maxRecDepth 100000 in
/-- findMover -/
theorem c_X4_findMover (l : Launch) (D : va_G) (cI : ClassId) (h0 : Nat) (g1 : Nat) (g2 : Nat) (g3 : Nat) (g4 : Nat) (g5 : Nat) (g6 : Nat) (code : Int32) (qq : zQ) (wi : Bool) (mo : Bool) (mv : Int32) (fr : Int32) (sh : Int32) (gr : Int32) (cp : Int32) (ra : Int32) (rl : Int32) (ow : zA) (sz : Nat) : Met l yX4_findMover wsX4_findMover ({ frames := 1, cells := 0, slots := 0, locals := 22 }) (z_Pw D cI [.ref h0] [(h0, .inr (4, [.int code, .int (zb qq.1), .int qq.2.1, .int qq.2.2.1, .ref g1, .ref g2, .ref g3, .ref g4, .ref g5, .ref g6, .int (zb qq.2.2.2), .int (zb wi), .int (zb mo), .int mv, .int fr, .int sh, .int gr, .int cp, .int ra, .int rl])), (g2, .inl (cI, 48, .inl ow))] sz) (z_Wo D (some (.int (zb ((m_fmR ow fr sh).1)))) [(h0, .inr (4, [.int code, .int (zb qq.1), .int qq.2.1, .int qq.2.2.1, .ref g1, .ref g2, .ref g3, .ref g4, .ref g5, .ref g6, .int (zb qq.2.2.2), .int (zb wi), .int (zb mo), .int ((m_fmR ow fr sh).2.1), .int ((m_fmR ow fr sh).2.2.1), .int ((m_fmR ow fr sh).2.2.2), .int gr, .int cp, .int ra, .int rl])), (g2, .inl (cI, 48, .inl ow))] (va_A [(h0, .inr (4, [.int code, .int (zb qq.1), .int qq.2.1, .int qq.2.2.1, .ref g1, .ref g2, .ref g3, .ref g4, .ref g5, .ref g6, .int (zb qq.2.2.2), .int (zb wi), .int (zb mo), .int mv, .int fr, .int sh, .int gr, .int cp, .int ra, .int rl])), (g2, .inl (cI, 48, .inl ow))] sz)) 0 0 (va_A [(h0, .inr (4, [.int code, .int (zb qq.1), .int qq.2.1, .int qq.2.2.1, .ref g1, .ref g2, .ref g3, .ref g4, .ref g5, .ref g6, .int (zb qq.2.2.2), .int (zb wi), .int (zb mo), .int mv, .int fr, .int sh, .int gr, .int cp, .int ra, .int rl])), (g2, .inl (cI, 48, .inl ow))] sz) := by
  refine Met.ofW (cc := cX4_findMover) (maxL := 3) (ret := (some .boolean)) (by decide) rfl ?_
  intro p e s m args below meth c s₁ B hml hv
  obtain ⟨rfl, hsz, hP, hK, hD0⟩ := hv
  have hx := B.exec
  have hb := B.bytes
  have hr := B.returns
  have hts := atoms_spec (ws := wsX4_findMover) B.pre
  have hown : s.vm.findClass RX4 = some m.cls := findClass_of_methodNamed B.named
  have hlocks := B.notSynchronized
  subst hsz
  have hD := hD0.self (sz := s.heap.size)
  generalize hAe : va_A [(h0, .inr (4, [.int code, .int (zb qq.1), .int qq.2.1, .int qq.2.2.1, .ref g1, .ref g2, .ref g3, .ref g4, .ref g5, .ref g6, .int (zb qq.2.2.2), .int (zb wi), .int (zb mo), .int mv, .int fr, .int sh, .int gr, .int cp, .int ra, .int rl])), (g2, .inl (cI, 48, .inl ow))] s.heap.size = A at hD ⊢
  have hA : ∀ q : Nat, s.heap.size ≤ q → A q := fun q h => by rw [← hAe]; exact Or.inr h
  have hS : va_S A s.heap s.heap [] := va_S.rf
  have hP : va_P D vwCl [(h0, .inr (4, [.int code, .int (zb qq.1), .int qq.2.1, .int qq.2.2.1, .ref g1, .ref g2, .ref g3, .ref g4, .ref g5, .ref g6, .int (zb qq.2.2.2), .int (zb wi), .int (zb mo), .int mv, .int fr, .int sh, .int gr, .int cp, .int ra, .int rl])), (g2, .inl (cI, 48, .inl ow))] s.heap := hP
  have hl := lv_entry ([.ref h0]) (n := 3) (Nat.le_of_ble_eq_true rfl)
  rw [lg_entry_eq]
  generalize (lg_sl ([.ref h0]) ++ List.replicate (3 - (lg_sl ([.ref h0])).length) Slot.unset).toArray = ls at hl ⊢
  have hl : lv_has ls 3 [(0, .ref h0)] := hl
  refine z_start hP hS (fun H locs hP hS => ?_)
  have hin4 : ∀ w ∈ wsX40, w ∈ wsX4_findMover := by decide +kernel
  have hf105 := hts (.fieldLink RX4 105 "SqueezedVolumeModel" "mover" "I") (by decide +kernel)
  have hf21 := hts (.fieldLink RX4 21 "SqueezedVolumeModel" "owner" "[I") (by decide +kernel)
  have hf108 := hts (.fieldLink RX4 108 "SqueezedVolumeModel" "from" "I") (by decide +kernel)
  have hf111 := hts (.fieldLink RX4 111 "SqueezedVolumeModel" "shift" "I") (by decide +kernel)
  have L7 : ∀ (k : Nat) (a9 : Nat) (x1 : Int32) (mv1 : Int32) (fr1 : Int32) (sh1 : Int32), (a9 ≤ 48) → (48 + 1 ≤ a9 + k) → (x1 = nI a9) → (m_fmF ow (m_segF ow k a9) (mv1, fr1, sh1) = m_fm ow fr sh) → ∀ (H : Heap) (locs : List Loc) (ls : Array Slot), va_P D vwCl [(h0, .inr (4, [.int code, .int (zb qq.1), .int qq.2.1, .int qq.2.2.1, .ref g1, .ref g2, .ref g3, .ref g4, .ref g5, .ref g6, .int (zb qq.2.2.2), .int (zb wi), .int (zb mo), .int mv1, .int fr1, .int sh1, .int gr, .int cp, .int ra, .int rl])), (g2, .inl (cI, 48, .inl ow))] H → va_D A [(h0, .inr (4, [.int code, .int (zb qq.1), .int qq.2.1, .int qq.2.2.1, .ref g1, .ref g2, .ref g3, .ref g4, .ref g5, .ref g6, .int (zb qq.2.2.2), .int (zb wi), .int (zb mo), .int mv1, .int fr1, .int sh1, .int gr, .int cp, .int ra, .int rl])), (g2, .inl (cI, 48, .inl ow))] → va_S A s.heap H locs → lv_has ls 3 [(0, .ref h0), (1, .int x1)] → W p l e ({ frames := 1, cells := 0, slots := 0, locals := 22 }) s m ([.ref h0] : List Value).toArray below meth c H locs 0 0 (MQ below (z_Wo D (some (.int (zb ((m_fmR ow fr sh).1)))) [(h0, .inr (4, [.int code, .int (zb qq.1), .int qq.2.1, .int qq.2.2.1, .ref g1, .ref g2, .ref g3, .ref g4, .ref g5, .ref g6, .int (zb qq.2.2.2), .int (zb wi), .int (zb mo), .int ((m_fmR ow fr sh).2.1), .int ((m_fmR ow fr sh).2.2.1), .int ((m_fmR ow fr sh).2.2.2), .int gr, .int cp, .int ra, .int rl])), (g2, .inl (cI, 48, .inl ow))] A) ([.ref h0] : List Value).toArray s 0 0 A) (F0 m 7 ls []) := by
    intro k
    induction k with
    | zero =>
      intro a9 x1 mv1 fr1 sh1 hj hk ex1 er
      exfalso; omega
    | succ k ih =>
      intro a9 x1 mv1 fr1 sh1 hj hk ex1 er
      intro H locs ls hP hD hS hl
      refine lv_iload_n hx hb dX4_findMover_7 rfl (lv_at hl 1 rfl) ?_
      refine lv_bipush (v := 48) hx hb dX4_findMover_8 (by decide) ?_
      refine lv_icmp_ge (tgt := 74) hx hb dX4_findMover_10 (by decide) (fun c_1 => ?_) (fun c_1 => ?_)
      · skip
        refine lv_aload_n hx hb dX4_findMover_74 rfl (lv_at hl 0 rfl) ?_
        refine va_get (D := D) (ci := 4) (v := .int mv1) (C := RX4) (T := TX4) (N := 20) hx hb hts hin4 hown hK hP 0 rfl rfl 13 (by decide) hf105 (fun _ h9 => h9) rfl dX4_findMover_75 ?_
        refine lv_if_le (tgt := 85) hx hb dX4_findMover_78 (by decide) (fun c_2 => ?_) (fun c_2 => ?_)
        · skip
          refine lv_iconst (v := 0) hx hb dX4_findMover_85 (by decide) ?_
          have hE : m_fmR ow fr sh = (false, mv1, fr1, sh1) := by rw [m_fmR, m_fm_e er (z48_e hj ex1 c_1)]; simp only [if_pos c_2]
          have hPz : va_P D vwCl [(h0, .inr (4, [.int code, .int (zb qq.1), .int qq.2.1, .int qq.2.2.1, .ref g1, .ref g2, .ref g3, .ref g4, .ref g5, .ref g6, .int (zb qq.2.2.2), .int (zb wi), .int (zb mo), .int ((m_fmR ow fr sh).2.1), .int ((m_fmR ow fr sh).2.2.1), .int ((m_fmR ow fr sh).2.2.2), .int gr, .int cp, .int ra, .int rl])), (g2, .inl (cI, 48, .inl ow))] H := by rw [hE]; exact hP
          have hRr : 0 = zb ((m_fmR ow fr sh).1) := by first | (rw [hE]; done) | (rw [hE]; rfl)
          exact W.zret (v := 0) (ty := .boolean) hx hb hr rfl (fun t ht hW => ⟨⟨z_ret hRr, by rw [ht]; exact hPz⟩, hS.F ht⟩) hS.2.2 dX4_findMover_86
        · skip
          refine lv_iconst (v := 1) hx hb dX4_findMover_81 (by decide) ?_
          refine lv_goto (tgt := 86) hx hb dX4_findMover_82 (by decide) ?_
          have hE : m_fmR ow fr sh = (true, mv1, fr1, sh1) := by rw [m_fmR, m_fm_e er (z48_e hj ex1 c_1)]; simp only [if_neg c_2]
          have hPz : va_P D vwCl [(h0, .inr (4, [.int code, .int (zb qq.1), .int qq.2.1, .int qq.2.2.1, .ref g1, .ref g2, .ref g3, .ref g4, .ref g5, .ref g6, .int (zb qq.2.2.2), .int (zb wi), .int (zb mo), .int ((m_fmR ow fr sh).2.1), .int ((m_fmR ow fr sh).2.2.1), .int ((m_fmR ow fr sh).2.2.2), .int gr, .int cp, .int ra, .int rl])), (g2, .inl (cI, 48, .inl ow))] H := by rw [hE]; exact hP
          have hRr : 1 = zb ((m_fmR ow fr sh).1) := by first | (rw [hE]; done) | (rw [hE]; rfl)
          exact W.zret (v := 1) (ty := .boolean) hx hb hr rfl (fun t ht hW => ⟨⟨z_ret hRr, by rw [ht]; exact hPz⟩, hS.F ht⟩) hS.2.2 dX4_findMover_86
      · skip
        refine lv_aload_n hx hb dX4_findMover_13 rfl (lv_at hl 0 rfl) ?_
        refine va_get (D := D) (ci := 4) (v := .int mv1) (C := RX4) (T := TX4) (N := 20) hx hb hts hin4 hown hK hP 0 rfl rfl 13 (by decide) hf105 (fun _ h9 => h9) rfl dX4_findMover_14 ?_
        refine lv_if_ne (tgt := 74) hx hb dX4_findMover_17 (by decide) (fun c_3 => ?_) (fun c_3 => ?_)
        · skip
          refine lv_aload_n hx hb dX4_findMover_74 rfl (lv_at hl 0 rfl) ?_
          refine va_get (D := D) (ci := 4) (v := .int mv1) (C := RX4) (T := TX4) (N := 20) hx hb hts hin4 hown hK hP 0 rfl rfl 13 (by decide) hf105 (fun _ h9 => h9) rfl dX4_findMover_75 ?_
          refine lv_if_le (tgt := 85) hx hb dX4_findMover_78 (by decide) (fun c_4 => ?_) (fun c_4 => ?_)
          · skip
            refine lv_iconst (v := 0) hx hb dX4_findMover_85 (by decide) ?_
            have hE : m_fmR ow fr sh = (false, mv1, fr1, sh1) := by rw [m_fmR, m_fm_x er (z48_s hj ex1 c_1) c_3]; simp only [if_pos c_4]
            have hPz : va_P D vwCl [(h0, .inr (4, [.int code, .int (zb qq.1), .int qq.2.1, .int qq.2.2.1, .ref g1, .ref g2, .ref g3, .ref g4, .ref g5, .ref g6, .int (zb qq.2.2.2), .int (zb wi), .int (zb mo), .int ((m_fmR ow fr sh).2.1), .int ((m_fmR ow fr sh).2.2.1), .int ((m_fmR ow fr sh).2.2.2), .int gr, .int cp, .int ra, .int rl])), (g2, .inl (cI, 48, .inl ow))] H := by rw [hE]; exact hP
            have hRr : 0 = zb ((m_fmR ow fr sh).1) := by first | (rw [hE]; done) | (rw [hE]; rfl)
            exact W.zret (v := 0) (ty := .boolean) hx hb hr rfl (fun t ht hW => ⟨⟨z_ret hRr, by rw [ht]; exact hPz⟩, hS.F ht⟩) hS.2.2 dX4_findMover_86
          · skip
            refine lv_iconst (v := 1) hx hb dX4_findMover_81 (by decide) ?_
            refine lv_goto (tgt := 86) hx hb dX4_findMover_82 (by decide) ?_
            have hE : m_fmR ow fr sh = (true, mv1, fr1, sh1) := by rw [m_fmR, m_fm_x er (z48_s hj ex1 c_1) c_3]; simp only [if_neg c_4]
            have hPz : va_P D vwCl [(h0, .inr (4, [.int code, .int (zb qq.1), .int qq.2.1, .int qq.2.2.1, .ref g1, .ref g2, .ref g3, .ref g4, .ref g5, .ref g6, .int (zb qq.2.2.2), .int (zb wi), .int (zb mo), .int ((m_fmR ow fr sh).2.1), .int ((m_fmR ow fr sh).2.2.1), .int ((m_fmR ow fr sh).2.2.2), .int gr, .int cp, .int ra, .int rl])), (g2, .inl (cI, 48, .inl ow))] H := by rw [hE]; exact hP
            have hRr : 1 = zb ((m_fmR ow fr sh).1) := by first | (rw [hE]; done) | (rw [hE]; rfl)
            exact W.zret (v := 1) (ty := .boolean) hx hb hr rfl (fun t ht hW => ⟨⟨z_ret hRr, by rw [ht]; exact hPz⟩, hS.F ht⟩) hS.2.2 dX4_findMover_86
        · skip
          refine lv_aload_n hx hb dX4_findMover_20 rfl (lv_at hl 0 rfl) ?_
          refine lv_iload_n hx hb dX4_findMover_21 rfl (lv_at hl 1 rfl) ?_
          refine z_callRi (va_runV (As := [.int x1]) (rest := []) ⟨hx, hb, hml, hown, hts⟩ (c_X4_runFrom l D cI h0 g1 g2 g3 g4 g5 g6 code qq wi mo mv1 fr1 sh1 gr cp ra rl ow x1 a9 ex1 (z48_s hj ex1 c_1)) (cwV 1 hts gX4_findMover_X4_runFrom rfl rfl rfl qd_X4_runFrom ⟨Nat.le_of_ble_eq_true rfl, Nat.le_of_ble_eq_true rfl⟩) ⟨z_Pr_blind, va_recv hK hP (ci := 4) (q0 := 0) rfl rfl, fun U hU hW => ⟨rfl, by rw [hU]; exact hP, va_K.moved hW.alike hK⟩⟩ rfl rfl hl.1 rfl (lv_room (Nat.le_of_ble_eq_true rfl)) dX4_findMover_22 ⟨Nat.le_of_ble_eq_true rfl, Nat.le_of_ble_eq_true rfl⟩) ?_
          refine lv_istore_n (lv' := [(2, .int (nI (m_rf ow a9))), (0, .ref h0), (1, .int x1)]) hx hb dX4_findMover_25 rfl hl (by decide) rfl (fun ls hl => ?_)
          refine lv_aload_n hx hb dX4_findMover_26 rfl (lv_at hl 1 rfl) ?_
          refine va_get (D := D) (ci := 4) (v := .ref g2) (C := RX4) (T := TX4) (N := 20) hx hb hts hin4 hown hK hP 0 rfl rfl 5 (by decide) hf21 (fun _ h9 => h9) rfl dX4_findMover_27 ?_
          refine lv_iload_n hx hb dX4_findMover_30 rfl (lv_at hl 2 rfl) ?_
          refine va_iald hx hb hK hP 1 0 rfl rfl (z_ix ex1 (z48_s hj ex1 c_1) (by decide)) dX4_findMover_31 ?_
          refine W.eq (g2 := F0 m 32 ls [.int (ow a9)]) (by rw [z_ic ex1 (z48_s hj ex1 c_1) (by decide)]) ?_
          refine lv_if_ne (tgt := 67) hx hb dX4_findMover_32 (by decide) (fun c_5 => ?_) (fun c_5 => ?_)
          · skip
            refine lv_iload_n hx hb dX4_findMover_67 rfl (lv_at hl 2 rfl) ?_
            refine lv_iload_n hx hb dX4_findMover_68 rfl (lv_at hl 0 rfl) ?_
            refine lv_iadd hx hb dX4_findMover_69 ?_
            refine lv_istore_n (lv' := [(1, .int (x1 + (nI (m_rf ow a9)))), (2, .int (nI (m_rf ow a9))), (0, .ref h0)]) hx hb dX4_findMover_70 rfl hl (by decide) rfl (fun ls hl => ?_)
            refine lv_goto (tgt := 7) hx hb dX4_findMover_71 (by decide) ?_
            exact ih (a9 + m_rf ow a9) (x1 + (nI (m_rf ow a9))) mv1 fr1 sh1 (m_rf_le (z48_s hj ex1 c_1)) (by have h8 := m_rf_pos ow a9; omega) (z_pl ex1 rfl) (by have h9 := m_fm_s er (z48_s hj ex1 c_1) c_3; simp only [if_neg c_5] at h9; exact h9) H locs ls hP hD hS (lv_sub hl [2, 0] rfl)
          · skip
            refine lv_iload_n hx hb dX4_findMover_35 rfl (lv_at hl 2 rfl) ?_
            refine lv_iload_n hx hb dX4_findMover_36 rfl (lv_at hl 0 rfl) ?_
            refine lv_iadd hx hb dX4_findMover_37 ?_
            refine lv_bipush (v := 48) hx hb dX4_findMover_38 (by decide) ?_
            refine lv_icmp_ge (tgt := 67) hx hb dX4_findMover_40 (by decide) (fun c_6 => ?_) (fun c_6 => ?_)
            · skip
              refine lv_iload_n hx hb dX4_findMover_67 rfl (lv_at hl 2 rfl) ?_
              refine lv_iload_n hx hb dX4_findMover_68 rfl (lv_at hl 0 rfl) ?_
              refine lv_iadd hx hb dX4_findMover_69 ?_
              refine lv_istore_n (lv' := [(1, .int (x1 + (nI (m_rf ow a9)))), (2, .int (nI (m_rf ow a9))), (0, .ref h0)]) hx hb dX4_findMover_70 rfl hl (by decide) rfl (fun ls hl => ?_)
              refine lv_goto (tgt := 7) hx hb dX4_findMover_71 (by decide) ?_
              exact ih (a9 + m_rf ow a9) (x1 + (nI (m_rf ow a9))) mv1 fr1 sh1 (m_rf_le (z48_s hj ex1 c_1)) (by have h8 := m_rf_pos ow a9; omega) (z_pl ex1 rfl) (by have h9 := m_fm_s er (z48_s hj ex1 c_1) c_3; simp only [if_pos c_5, ← ex1, if_pos c_6] at h9; exact h9) H locs ls hP hD hS (lv_sub hl [2, 0] rfl)
            · skip
              refine lv_aload_n hx hb dX4_findMover_43 rfl (lv_at hl 1 rfl) ?_
              refine lv_aload_n hx hb dX4_findMover_44 rfl (lv_at hl 1 rfl) ?_
              refine va_get (D := D) (ci := 4) (v := .ref g2) (C := RX4) (T := TX4) (N := 20) hx hb hts hin4 hown hK hP 0 rfl rfl 5 (by decide) hf21 (fun _ h9 => h9) rfl dX4_findMover_45 ?_
              refine lv_iload_n hx hb dX4_findMover_48 rfl (lv_at hl 2 rfl) ?_
              refine lv_iload_n hx hb dX4_findMover_49 rfl (lv_at hl 0 rfl) ?_
              refine lv_iadd hx hb dX4_findMover_50 ?_
              refine va_iald hx hb hK hP 1 0 rfl rfl (z_ix (z_pl ex1 rfl) (z48_s (m_rf_le (z48_s hj ex1 c_1)) (z_pl ex1 rfl) c_6) (by decide)) dX4_findMover_51 ?_
              refine W.eq (g2 := F0 m 52 ls [.int (ow (a9 + m_rf ow a9)), .ref h0]) (by rw [z_ic (z_pl ex1 rfl) (z48_s (m_rf_le (z48_s hj ex1 c_1)) (z_pl ex1 rfl) c_6) (by decide)]) ?_
              refine va_put (D := D) (ci := 4) (v := .int (ow (a9 + m_rf ow a9))) (ty := .int) (C := RX4) (T := TX4) (N := 20) hx hb hts hin4 tyX4 tyX4_ok nmX4 hown hK hP hD hS 0 rfl rfl 13 (by decide) hf105 (fun _ h9 => h9) rfl (by decide +kernel) rfl rfl (Nat.le_of_ble_eq_true rfl) dX4_findMover_52 (fun H locs hP hD hS => ?_)
              have hP : va_P D vwCl [(h0, .inr (4, [.int code, .int (zb qq.1), .int qq.2.1, .int qq.2.2.1, .ref g1, .ref g2, .ref g3, .ref g4, .ref g5, .ref g6, .int (zb qq.2.2.2), .int (zb wi), .int (zb mo), .int (ow (a9 + m_rf ow a9)), .int fr1, .int sh1, .int gr, .int cp, .int ra, .int rl])), (g2, .inl (cI, 48, .inl ow))] H := hP
              have hD : va_D A [(h0, .inr (4, [.int code, .int (zb qq.1), .int qq.2.1, .int qq.2.2.1, .ref g1, .ref g2, .ref g3, .ref g4, .ref g5, .ref g6, .int (zb qq.2.2.2), .int (zb wi), .int (zb mo), .int (ow (a9 + m_rf ow a9)), .int fr1, .int sh1, .int gr, .int cp, .int ra, .int rl])), (g2, .inl (cI, 48, .inl ow))] := hD
              refine lv_aload_n hx hb dX4_findMover_55 rfl (lv_at hl 1 rfl) ?_
              refine lv_iload_n hx hb dX4_findMover_56 rfl (lv_at hl 2 rfl) ?_
              refine lv_iload_n hx hb dX4_findMover_57 rfl (lv_at hl 0 rfl) ?_
              refine lv_iadd hx hb dX4_findMover_58 ?_
              refine va_put (D := D) (ci := 4) (v := .int (x1 + (nI (m_rf ow a9)))) (ty := .int) (C := RX4) (T := TX4) (N := 20) hx hb hts hin4 tyX4 tyX4_ok nmX4 hown hK hP hD hS 0 rfl rfl 14 (by decide) hf108 (fun _ h9 => h9) rfl (by decide +kernel) rfl rfl (Nat.le_of_ble_eq_true rfl) dX4_findMover_59 (fun H locs hP hD hS => ?_)
              have hP : va_P D vwCl [(h0, .inr (4, [.int code, .int (zb qq.1), .int qq.2.1, .int qq.2.2.1, .ref g1, .ref g2, .ref g3, .ref g4, .ref g5, .ref g6, .int (zb qq.2.2.2), .int (zb wi), .int (zb mo), .int (ow (a9 + m_rf ow a9)), .int (x1 + (nI (m_rf ow a9))), .int sh1, .int gr, .int cp, .int ra, .int rl])), (g2, .inl (cI, 48, .inl ow))] H := hP
              have hD : va_D A [(h0, .inr (4, [.int code, .int (zb qq.1), .int qq.2.1, .int qq.2.2.1, .ref g1, .ref g2, .ref g3, .ref g4, .ref g5, .ref g6, .int (zb qq.2.2.2), .int (zb wi), .int (zb mo), .int (ow (a9 + m_rf ow a9)), .int (x1 + (nI (m_rf ow a9))), .int sh1, .int gr, .int cp, .int ra, .int rl])), (g2, .inl (cI, 48, .inl ow))] := hD
              refine lv_aload_n hx hb dX4_findMover_62 rfl (lv_at hl 1 rfl) ?_
              refine lv_iload_n hx hb dX4_findMover_63 rfl (lv_at hl 0 rfl) ?_
              refine va_put (D := D) (ci := 4) (v := .int (nI (m_rf ow a9))) (ty := .int) (C := RX4) (T := TX4) (N := 20) hx hb hts hin4 tyX4 tyX4_ok nmX4 hown hK hP hD hS 0 rfl rfl 15 (by decide) hf111 (fun _ h9 => h9) rfl (by decide +kernel) rfl rfl (Nat.le_of_ble_eq_true rfl) dX4_findMover_64 (fun H locs hP hD hS => ?_)
              have hP : va_P D vwCl [(h0, .inr (4, [.int code, .int (zb qq.1), .int qq.2.1, .int qq.2.2.1, .ref g1, .ref g2, .ref g3, .ref g4, .ref g5, .ref g6, .int (zb qq.2.2.2), .int (zb wi), .int (zb mo), .int (ow (a9 + m_rf ow a9)), .int (x1 + (nI (m_rf ow a9))), .int (nI (m_rf ow a9)), .int gr, .int cp, .int ra, .int rl])), (g2, .inl (cI, 48, .inl ow))] H := hP
              have hD : va_D A [(h0, .inr (4, [.int code, .int (zb qq.1), .int qq.2.1, .int qq.2.2.1, .ref g1, .ref g2, .ref g3, .ref g4, .ref g5, .ref g6, .int (zb qq.2.2.2), .int (zb wi), .int (zb mo), .int (ow (a9 + m_rf ow a9)), .int (x1 + (nI (m_rf ow a9))), .int (nI (m_rf ow a9)), .int gr, .int cp, .int ra, .int rl])), (g2, .inl (cI, 48, .inl ow))] := hD
              refine lv_iload_n hx hb dX4_findMover_67 rfl (lv_at hl 2 rfl) ?_
              refine lv_iload_n hx hb dX4_findMover_68 rfl (lv_at hl 0 rfl) ?_
              refine lv_iadd hx hb dX4_findMover_69 ?_
              refine lv_istore_n (lv' := [(1, .int (x1 + (nI (m_rf ow a9)))), (2, .int (nI (m_rf ow a9))), (0, .ref h0)]) hx hb dX4_findMover_70 rfl hl (by decide) rfl (fun ls hl => ?_)
              refine lv_goto (tgt := 7) hx hb dX4_findMover_71 (by decide) ?_
              exact ih (a9 + m_rf ow a9) (x1 + (nI (m_rf ow a9))) (ow (a9 + m_rf ow a9)) (x1 + (nI (m_rf ow a9))) (nI (m_rf ow a9)) (m_rf_le (z48_s hj ex1 c_1)) (by have h8 := m_rf_pos ow a9; omega) (z_pl ex1 rfl) (by have h9 := m_fm_s er (z48_s hj ex1 c_1) c_3; simp only [if_pos c_5, ← ex1, if_neg c_6] at h9; exact h9) H locs ls hP hD hS (lv_sub hl [2, 0] rfl)
  refine lv_aload_n hx hb dX4_findMover_0 rfl (lv_at hl 0 rfl) ?_
  refine lv_iconst (v := 0) hx hb dX4_findMover_1 (by decide) ?_
  refine va_put (D := D) (ci := 4) (v := .int 0) (ty := .int) (C := RX4) (T := TX4) (N := 20) hx hb hts hin4 tyX4 tyX4_ok nmX4 hown hK hP hD hS 0 rfl rfl 13 (by decide) hf105 (fun _ h9 => h9) rfl (by decide +kernel) rfl rfl (Nat.le_of_ble_eq_true rfl) dX4_findMover_2 (fun H locs hP hD hS => ?_)
  have hP : va_P D vwCl [(h0, .inr (4, [.int code, .int (zb qq.1), .int qq.2.1, .int qq.2.2.1, .ref g1, .ref g2, .ref g3, .ref g4, .ref g5, .ref g6, .int (zb qq.2.2.2), .int (zb wi), .int (zb mo), .int 0, .int fr, .int sh, .int gr, .int cp, .int ra, .int rl])), (g2, .inl (cI, 48, .inl ow))] H := hP
  have hD : va_D A [(h0, .inr (4, [.int code, .int (zb qq.1), .int qq.2.1, .int qq.2.2.1, .ref g1, .ref g2, .ref g3, .ref g4, .ref g5, .ref g6, .int (zb qq.2.2.2), .int (zb wi), .int (zb mo), .int 0, .int fr, .int sh, .int gr, .int cp, .int ra, .int rl])), (g2, .inl (cI, 48, .inl ow))] := hD
  refine lv_iconst (v := 0) hx hb dX4_findMover_5 (by decide) ?_
  refine lv_istore_n (lv' := [(1, .int 0), (0, .ref h0)]) hx hb dX4_findMover_6 rfl hl (by decide) rfl (fun ls hl => ?_)
  exact L7 49 0 0 0 fr sh (Nat.zero_le _) (by decide) nI_0.symm rfl H locs ls hP hD hS (lv_sub hl [1, 0] rfl)
theorem qd_X4_run : yX4_run.cls = RX4 ∧ yX4_run.cls ≠ "java/lang/invoke/MethodHandle" ∧ yX4_run.cls ≠ "java/lang/invoke/VarHandle" ∧ (parseMethodDescriptor yX4_run.desc).map (fun d => d.parameters.length) = some 1 := by decide +kernel
set_option maxHeartbeats 400000 in
set_option maxRecDepth 100000 in
/-- run -/
theorem c_X4_run (l : Launch) (D : va_G) (cI : ClassId) (h0 : Nat) (g1 : Nat) (g2 : Nat) (g3 : Nat) (g4 : Nat) (g5 : Nat) (g6 : Nat) (code : Int32) (qq : zQ) (wi : Bool) (mo : Bool) (mv : Int32) (fr : Int32) (sh : Int32) (gr : Int32) (cp : Int32) (ra : Int32) (rl : Int32) (ow : zA) (p0 : Int32) (sz : Nat) : Met l yX4_run wsX4_run ({ frames := 1, cells := 0, slots := 0, locals := 22 }) (z_Pw D cI [.ref h0, .int p0] [(h0, .inr (4, [.int code, .int (zb qq.1), .int qq.2.1, .int qq.2.2.1, .ref g1, .ref g2, .ref g3, .ref g4, .ref g5, .ref g6, .int (zb qq.2.2.2), .int (zb wi), .int (zb mo), .int mv, .int fr, .int sh, .int gr, .int cp, .int ra, .int rl])), (g2, .inl (cI, 48, .inl ow))] sz) (z_Wo D (some (.int (zb ((m_runR ow p0).1)))) [(h0, .inr (4, [.int code, .int (zb qq.1), .int qq.2.1, .int qq.2.2.1, .ref g1, .ref g2, .ref g3, .ref g4, .ref g5, .ref g6, .int (zb qq.2.2.2), .int (zb wi), .int (zb mo), .int mv, .int fr, .int sh, .int gr, .int cp, .int ((m_runR ow p0).2.1), .int ((m_runR ow p0).2.2)])), (g2, .inl (cI, 48, .inl ow))] (va_A [(h0, .inr (4, [.int code, .int (zb qq.1), .int qq.2.1, .int qq.2.2.1, .ref g1, .ref g2, .ref g3, .ref g4, .ref g5, .ref g6, .int (zb qq.2.2.2), .int (zb wi), .int (zb mo), .int mv, .int fr, .int sh, .int gr, .int cp, .int ra, .int rl])), (g2, .inl (cI, 48, .inl ow))] sz)) 0 0 (va_A [(h0, .inr (4, [.int code, .int (zb qq.1), .int qq.2.1, .int qq.2.2.1, .ref g1, .ref g2, .ref g3, .ref g4, .ref g5, .ref g6, .int (zb qq.2.2.2), .int (zb wi), .int (zb mo), .int mv, .int fr, .int sh, .int gr, .int cp, .int ra, .int rl])), (g2, .inl (cI, 48, .inl ow))] sz) := by
  refine Met.ofW (cc := cX4_run) (maxL := 4) (ret := (some .boolean)) (by decide) rfl ?_
  intro p e s m args below meth c s₁ B hml hv
  obtain ⟨rfl, hsz, hP, hK, hD0⟩ := hv
  have hx := B.exec
  have hb := B.bytes
  have hr := B.returns
  have hts := atoms_spec (ws := wsX4_run) B.pre
  have hown : s.vm.findClass RX4 = some m.cls := findClass_of_methodNamed B.named
  have hlocks := B.notSynchronized
  subst hsz
  have hD := hD0.self (sz := s.heap.size)
  generalize hAe : va_A [(h0, .inr (4, [.int code, .int (zb qq.1), .int qq.2.1, .int qq.2.2.1, .ref g1, .ref g2, .ref g3, .ref g4, .ref g5, .ref g6, .int (zb qq.2.2.2), .int (zb wi), .int (zb mo), .int mv, .int fr, .int sh, .int gr, .int cp, .int ra, .int rl])), (g2, .inl (cI, 48, .inl ow))] s.heap.size = A at hD ⊢
  have hA : ∀ q : Nat, s.heap.size ≤ q → A q := fun q h => by rw [← hAe]; exact Or.inr h
  have hS : va_S A s.heap s.heap [] := va_S.rf
  have hP : va_P D vwCl [(h0, .inr (4, [.int code, .int (zb qq.1), .int qq.2.1, .int qq.2.2.1, .ref g1, .ref g2, .ref g3, .ref g4, .ref g5, .ref g6, .int (zb qq.2.2.2), .int (zb wi), .int (zb mo), .int mv, .int fr, .int sh, .int gr, .int cp, .int ra, .int rl])), (g2, .inl (cI, 48, .inl ow))] s.heap := hP
  have hl := lv_entry ([.ref h0, .int p0]) (n := 4) (Nat.le_of_ble_eq_true rfl)
  rw [lg_entry_eq]
  generalize (lg_sl ([.ref h0, .int p0]) ++ List.replicate (4 - (lg_sl ([.ref h0, .int p0])).length) Slot.unset).toArray = ls at hl ⊢
  have hl : lv_has ls 4 [(0, .ref h0), (1, .int p0)] := hl
  refine z_start hP hS (fun H locs hP hS => ?_)
  have hin4 : ∀ w ∈ wsX40, w ∈ wsX4_run := by decide +kernel
  have hf63 := hts (.fieldLink RX4 63 "SqueezedVolumeModel" "runAt" "I") (by decide +kernel)
  have hf56 := hts (.fieldLink RX4 56 "SqueezedVolumeModel" "runLength" "I") (by decide +kernel)
  have L4 : ∀ (k : Nat) (j : Nat) (x2 : Int32) (x3 : Int32), (j ≤ p0.toNatClampNeg) → (p0.toNatClampNeg + 1 ≤ j + k) → (x3 = nI j) → (x2 = nI (m_atF ow j)) → ∀ (H : Heap) (locs : List Loc) (ls : Array Slot), va_P D vwCl [(h0, .inr (4, [.int code, .int (zb qq.1), .int qq.2.1, .int qq.2.2.1, .ref g1, .ref g2, .ref g3, .ref g4, .ref g5, .ref g6, .int (zb qq.2.2.2), .int (zb wi), .int (zb mo), .int mv, .int fr, .int sh, .int gr, .int cp, .int ra, .int rl])), (g2, .inl (cI, 48, .inl ow))] H → va_D A [(h0, .inr (4, [.int code, .int (zb qq.1), .int qq.2.1, .int qq.2.2.1, .ref g1, .ref g2, .ref g3, .ref g4, .ref g5, .ref g6, .int (zb qq.2.2.2), .int (zb wi), .int (zb mo), .int mv, .int fr, .int sh, .int gr, .int cp, .int ra, .int rl])), (g2, .inl (cI, 48, .inl ow))] → va_S A s.heap H locs → lv_has ls 4 [(0, .ref h0), (1, .int p0), (2, .int x2), (3, .int x3)] → W p l e ({ frames := 1, cells := 0, slots := 0, locals := 22 }) s m ([.ref h0, .int p0] : List Value).toArray below meth c H locs 0 0 (MQ below (z_Wo D (some (.int (zb ((m_runR ow p0).1)))) [(h0, .inr (4, [.int code, .int (zb qq.1), .int qq.2.1, .int qq.2.2.1, .ref g1, .ref g2, .ref g3, .ref g4, .ref g5, .ref g6, .int (zb qq.2.2.2), .int (zb wi), .int (zb mo), .int mv, .int fr, .int sh, .int gr, .int cp, .int ((m_runR ow p0).2.1), .int ((m_runR ow p0).2.2)])), (g2, .inl (cI, 48, .inl ow))] A) ([.ref h0, .int p0] : List Value).toArray s 0 0 A) (F0 m 4 ls []) := by
    intro k
    induction k with
    | zero =>
      intro j x2 x3 hj hk ex3 ex2
      exfalso; omega
    | succ k ih =>
      intro j x2 x3 hj hk ex3 ex2
      intro H locs ls hP hD hS hl
      refine lv_iload_n hx hb dX4_run_4 rfl (lv_at hl 3 rfl) ?_
      refine lv_iload_n hx hb dX4_run_5 rfl (lv_at hl 1 rfl) ?_
      refine lv_icmp_ge (tgt := 29) hx hb dX4_run_6 (by decide) (fun c_1 => ?_) (fun c_1 => ?_)
      · skip
        refine lv_aload_n hx hb dX4_run_29 rfl (lv_at hl 0 rfl) ?_
        refine lv_iload_n hx hb dX4_run_30 rfl (lv_at hl 2 rfl) ?_
        refine va_put (D := D) (ci := 4) (v := .int x2) (ty := .int) (C := RX4) (T := TX4) (N := 20) hx hb hts hin4 tyX4 tyX4_ok nmX4 hown hK hP hD hS 0 rfl rfl 18 (by decide) hf63 (fun _ h9 => h9) rfl (by decide +kernel) rfl rfl (Nat.le_of_ble_eq_true rfl) dX4_run_31 (fun H locs hP hD hS => ?_)
        have hP : va_P D vwCl [(h0, .inr (4, [.int code, .int (zb qq.1), .int qq.2.1, .int qq.2.2.1, .ref g1, .ref g2, .ref g3, .ref g4, .ref g5, .ref g6, .int (zb qq.2.2.2), .int (zb wi), .int (zb mo), .int mv, .int fr, .int sh, .int gr, .int cp, .int x2, .int rl])), (g2, .inl (cI, 48, .inl ow))] H := hP
        have hD : va_D A [(h0, .inr (4, [.int code, .int (zb qq.1), .int qq.2.1, .int qq.2.2.1, .ref g1, .ref g2, .ref g3, .ref g4, .ref g5, .ref g6, .int (zb qq.2.2.2), .int (zb wi), .int (zb mo), .int mv, .int fr, .int sh, .int gr, .int cp, .int x2, .int rl])), (g2, .inl (cI, 48, .inl ow))] := hD
        refine lv_aload_n hx hb dX4_run_34 rfl (lv_at hl 0 rfl) ?_
        refine lv_iload_n hx hb dX4_run_35 rfl (lv_at hl 2 rfl) ?_
        refine lv_bipush (v := 48) hx hb dX4_run_36 (by decide) ?_
        refine lv_icmp_ge (tgt := 49) hx hb dX4_run_38 (by decide) (fun c_2 => ?_) (fun c_2 => ?_)
        · skip
          refine lv_iconst (v := 0) hx hb dX4_run_49 (by decide) ?_
          refine va_put (D := D) (ci := 4) (v := .int 0) (ty := .int) (C := RX4) (T := TX4) (N := 20) hx hb hts hin4 tyX4 tyX4_ok nmX4 hown hK hP hD hS 0 rfl rfl 19 (by decide) hf56 (fun _ h9 => h9) rfl (by decide +kernel) rfl rfl (Nat.le_of_ble_eq_true rfl) dX4_run_50 (fun H locs hP hD hS => ?_)
          have hP : va_P D vwCl [(h0, .inr (4, [.int code, .int (zb qq.1), .int qq.2.1, .int qq.2.2.1, .ref g1, .ref g2, .ref g3, .ref g4, .ref g5, .ref g6, .int (zb qq.2.2.2), .int (zb wi), .int (zb mo), .int mv, .int fr, .int sh, .int gr, .int cp, .int x2, .int 0])), (g2, .inl (cI, 48, .inl ow))] H := hP
          have hD : va_D A [(h0, .inr (4, [.int code, .int (zb qq.1), .int qq.2.1, .int qq.2.2.1, .ref g1, .ref g2, .ref g3, .ref g4, .ref g5, .ref g6, .int (zb qq.2.2.2), .int (zb wi), .int (zb mo), .int mv, .int fr, .int sh, .int gr, .int cp, .int x2, .int 0])), (g2, .inl (cI, 48, .inl ow))] := hD
          refine lv_iload_n hx hb dX4_run_53 rfl (lv_at hl 2 rfl) ?_
          refine lv_bipush (v := 48) hx hb dX4_run_54 (by decide) ?_
          refine lv_icmp_ge (tgt := 63) hx hb dX4_run_56 (by decide) (fun c_3 => ?_) (fun c_3 => ?_)
          · skip
            refine lv_iconst (v := 0) hx hb dX4_run_63 (by decide) ?_
            have hE : m_runR ow p0 = (false, x2, 0) := by rw [m_runR, show m_at ow p0 = m_atF ow j from by rw [m_at, z_c_eq hj ex3 c_1], ← ex2]; simp only [if_pos c_2]
            have hPz : va_P D vwCl [(h0, .inr (4, [.int code, .int (zb qq.1), .int qq.2.1, .int qq.2.2.1, .ref g1, .ref g2, .ref g3, .ref g4, .ref g5, .ref g6, .int (zb qq.2.2.2), .int (zb wi), .int (zb mo), .int mv, .int fr, .int sh, .int gr, .int cp, .int ((m_runR ow p0).2.1), .int ((m_runR ow p0).2.2)])), (g2, .inl (cI, 48, .inl ow))] H := by rw [hE]; exact hP
            have hRr : 0 = zb ((m_runR ow p0).1) := by first | (rw [hE]; done) | (rw [hE]; rfl)
            exact W.zret (v := 0) (ty := .boolean) hx hb hr rfl (fun t ht hW => ⟨⟨z_ret hRr, by rw [ht]; exact hPz⟩, hS.F ht⟩) hS.2.2 dX4_run_64
          · skip
            exact absurd c_2 c_3
        · skip
          refine lv_aload_n hx hb dX4_run_41 rfl (lv_at hl 0 rfl) ?_
          refine lv_iload_n hx hb dX4_run_42 rfl (lv_at hl 2 rfl) ?_
          refine z_callRi (va_runV (As := [.int x2]) (rest := [.ref h0]) ⟨hx, hb, hml, hown, hts⟩ (c_X4_runFrom l D cI h0 g1 g2 g3 g4 g5 g6 code qq wi mo mv fr sh gr cp x2 rl ow x2 (m_atF ow j) ex2 (z48_s (m_at_le ow j) ex2 c_2)) (cwV 1 hts gX4_run_X4_runFrom rfl rfl rfl qd_X4_runFrom ⟨Nat.le_of_ble_eq_true rfl, Nat.le_of_ble_eq_true rfl⟩) ⟨z_Pr_blind, va_recv hK hP (ci := 4) (q0 := 0) rfl rfl, fun U hU hW => ⟨rfl, by rw [hU]; exact hP, va_K.moved hW.alike hK⟩⟩ rfl rfl hl.1 rfl (lv_room (Nat.le_of_ble_eq_true rfl)) dX4_run_43 ⟨Nat.le_of_ble_eq_true rfl, Nat.le_of_ble_eq_true rfl⟩) ?_
          refine lv_goto (tgt := 50) hx hb dX4_run_46 (by decide) ?_
          refine va_put (D := D) (ci := 4) (v := .int (nI (m_rf ow (m_atF ow j)))) (ty := .int) (C := RX4) (T := TX4) (N := 20) hx hb hts hin4 tyX4 tyX4_ok nmX4 hown hK hP hD hS 0 rfl rfl 19 (by decide) hf56 (fun _ h9 => h9) rfl (by decide +kernel) rfl rfl (Nat.le_of_ble_eq_true rfl) dX4_run_50 (fun H locs hP hD hS => ?_)
          have hP : va_P D vwCl [(h0, .inr (4, [.int code, .int (zb qq.1), .int qq.2.1, .int qq.2.2.1, .ref g1, .ref g2, .ref g3, .ref g4, .ref g5, .ref g6, .int (zb qq.2.2.2), .int (zb wi), .int (zb mo), .int mv, .int fr, .int sh, .int gr, .int cp, .int x2, .int (nI (m_rf ow (m_atF ow j)))])), (g2, .inl (cI, 48, .inl ow))] H := hP
          have hD : va_D A [(h0, .inr (4, [.int code, .int (zb qq.1), .int qq.2.1, .int qq.2.2.1, .ref g1, .ref g2, .ref g3, .ref g4, .ref g5, .ref g6, .int (zb qq.2.2.2), .int (zb wi), .int (zb mo), .int mv, .int fr, .int sh, .int gr, .int cp, .int x2, .int (nI (m_rf ow (m_atF ow j)))])), (g2, .inl (cI, 48, .inl ow))] := hD
          refine lv_iload_n hx hb dX4_run_53 rfl (lv_at hl 2 rfl) ?_
          refine lv_bipush (v := 48) hx hb dX4_run_54 (by decide) ?_
          refine lv_icmp_ge (tgt := 63) hx hb dX4_run_56 (by decide) (fun c_4 => ?_) (fun c_4 => ?_)
          · skip
            exact absurd c_4 c_2
          · skip
            refine lv_iconst (v := 1) hx hb dX4_run_59 (by decide) ?_
            refine lv_goto (tgt := 64) hx hb dX4_run_60 (by decide) ?_
            have hE : m_runR ow p0 = (true, x2, nI (m_rf ow (m_atF ow j))) := by rw [m_runR, show m_at ow p0 = m_atF ow j from by rw [m_at, z_c_eq hj ex3 c_1], ← ex2]; simp only [if_neg c_2]
            have hPz : va_P D vwCl [(h0, .inr (4, [.int code, .int (zb qq.1), .int qq.2.1, .int qq.2.2.1, .ref g1, .ref g2, .ref g3, .ref g4, .ref g5, .ref g6, .int (zb qq.2.2.2), .int (zb wi), .int (zb mo), .int mv, .int fr, .int sh, .int gr, .int cp, .int ((m_runR ow p0).2.1), .int ((m_runR ow p0).2.2)])), (g2, .inl (cI, 48, .inl ow))] H := by rw [hE]; exact hP
            have hRr : 1 = zb ((m_runR ow p0).1) := by first | (rw [hE]; done) | (rw [hE]; rfl)
            exact W.zret (v := 1) (ty := .boolean) hx hb hr rfl (fun t ht hW => ⟨⟨z_ret hRr, by rw [ht]; exact hPz⟩, hS.F ht⟩) hS.2.2 dX4_run_64
      · skip
        refine lv_iload_n hx hb dX4_run_9 rfl (lv_at hl 2 rfl) ?_
        refine lv_bipush (v := 48) hx hb dX4_run_10 (by decide) ?_
        refine lv_icmp_ge (tgt := 29) hx hb dX4_run_12 (by decide) (fun c_5 => ?_) (fun c_5 => ?_)
        · skip
          refine lv_aload_n hx hb dX4_run_29 rfl (lv_at hl 0 rfl) ?_
          refine lv_iload_n hx hb dX4_run_30 rfl (lv_at hl 2 rfl) ?_
          refine va_put (D := D) (ci := 4) (v := .int x2) (ty := .int) (C := RX4) (T := TX4) (N := 20) hx hb hts hin4 tyX4 tyX4_ok nmX4 hown hK hP hD hS 0 rfl rfl 18 (by decide) hf63 (fun _ h9 => h9) rfl (by decide +kernel) rfl rfl (Nat.le_of_ble_eq_true rfl) dX4_run_31 (fun H locs hP hD hS => ?_)
          have hP : va_P D vwCl [(h0, .inr (4, [.int code, .int (zb qq.1), .int qq.2.1, .int qq.2.2.1, .ref g1, .ref g2, .ref g3, .ref g4, .ref g5, .ref g6, .int (zb qq.2.2.2), .int (zb wi), .int (zb mo), .int mv, .int fr, .int sh, .int gr, .int cp, .int x2, .int rl])), (g2, .inl (cI, 48, .inl ow))] H := hP
          have hD : va_D A [(h0, .inr (4, [.int code, .int (zb qq.1), .int qq.2.1, .int qq.2.2.1, .ref g1, .ref g2, .ref g3, .ref g4, .ref g5, .ref g6, .int (zb qq.2.2.2), .int (zb wi), .int (zb mo), .int mv, .int fr, .int sh, .int gr, .int cp, .int x2, .int rl])), (g2, .inl (cI, 48, .inl ow))] := hD
          refine lv_aload_n hx hb dX4_run_34 rfl (lv_at hl 0 rfl) ?_
          refine lv_iload_n hx hb dX4_run_35 rfl (lv_at hl 2 rfl) ?_
          refine lv_bipush (v := 48) hx hb dX4_run_36 (by decide) ?_
          refine lv_icmp_ge (tgt := 49) hx hb dX4_run_38 (by decide) (fun c_6 => ?_) (fun c_6 => ?_)
          · skip
            refine lv_iconst (v := 0) hx hb dX4_run_49 (by decide) ?_
            refine va_put (D := D) (ci := 4) (v := .int 0) (ty := .int) (C := RX4) (T := TX4) (N := 20) hx hb hts hin4 tyX4 tyX4_ok nmX4 hown hK hP hD hS 0 rfl rfl 19 (by decide) hf56 (fun _ h9 => h9) rfl (by decide +kernel) rfl rfl (Nat.le_of_ble_eq_true rfl) dX4_run_50 (fun H locs hP hD hS => ?_)
            have hP : va_P D vwCl [(h0, .inr (4, [.int code, .int (zb qq.1), .int qq.2.1, .int qq.2.2.1, .ref g1, .ref g2, .ref g3, .ref g4, .ref g5, .ref g6, .int (zb qq.2.2.2), .int (zb wi), .int (zb mo), .int mv, .int fr, .int sh, .int gr, .int cp, .int x2, .int 0])), (g2, .inl (cI, 48, .inl ow))] H := hP
            have hD : va_D A [(h0, .inr (4, [.int code, .int (zb qq.1), .int qq.2.1, .int qq.2.2.1, .ref g1, .ref g2, .ref g3, .ref g4, .ref g5, .ref g6, .int (zb qq.2.2.2), .int (zb wi), .int (zb mo), .int mv, .int fr, .int sh, .int gr, .int cp, .int x2, .int 0])), (g2, .inl (cI, 48, .inl ow))] := hD
            refine lv_iload_n hx hb dX4_run_53 rfl (lv_at hl 2 rfl) ?_
            refine lv_bipush (v := 48) hx hb dX4_run_54 (by decide) ?_
            refine lv_icmp_ge (tgt := 63) hx hb dX4_run_56 (by decide) (fun c_7 => ?_) (fun c_7 => ?_)
            · skip
              refine lv_iconst (v := 0) hx hb dX4_run_63 (by decide) ?_
              have hE : m_runR ow p0 = (false, x2, 0) := by rw [m_runR, m_at_x hj ex2 c_5, ← ex2]; simp only [if_pos c_5]
              have hPz : va_P D vwCl [(h0, .inr (4, [.int code, .int (zb qq.1), .int qq.2.1, .int qq.2.2.1, .ref g1, .ref g2, .ref g3, .ref g4, .ref g5, .ref g6, .int (zb qq.2.2.2), .int (zb wi), .int (zb mo), .int mv, .int fr, .int sh, .int gr, .int cp, .int ((m_runR ow p0).2.1), .int ((m_runR ow p0).2.2)])), (g2, .inl (cI, 48, .inl ow))] H := by rw [hE]; exact hP
              have hRr : 0 = zb ((m_runR ow p0).1) := by first | (rw [hE]; done) | (rw [hE]; rfl)
              exact W.zret (v := 0) (ty := .boolean) hx hb hr rfl (fun t ht hW => ⟨⟨z_ret hRr, by rw [ht]; exact hPz⟩, hS.F ht⟩) hS.2.2 dX4_run_64
            · skip
              exact absurd c_5 c_7
          · skip
            exact absurd c_5 c_6
        · skip
          refine lv_iload_n hx hb dX4_run_15 rfl (lv_at hl 2 rfl) ?_
          refine lv_aload_n hx hb dX4_run_16 rfl (lv_at hl 0 rfl) ?_
          refine lv_iload_n hx hb dX4_run_17 rfl (lv_at hl 2 rfl) ?_
          refine z_callRi (va_runV (As := [.int x2]) (rest := [.int x2]) ⟨hx, hb, hml, hown, hts⟩ (c_X4_runFrom l D cI h0 g1 g2 g3 g4 g5 g6 code qq wi mo mv fr sh gr cp ra rl ow x2 (m_atF ow j) ex2 (z48_s (m_at_le ow j) ex2 c_5)) (cwV 1 hts gX4_run_X4_runFrom rfl rfl rfl qd_X4_runFrom ⟨Nat.le_of_ble_eq_true rfl, Nat.le_of_ble_eq_true rfl⟩) ⟨z_Pr_blind, va_recv hK hP (ci := 4) (q0 := 0) rfl rfl, fun U hU hW => ⟨rfl, by rw [hU]; exact hP, va_K.moved hW.alike hK⟩⟩ rfl rfl hl.1 rfl (lv_room (Nat.le_of_ble_eq_true rfl)) dX4_run_18 ⟨Nat.le_of_ble_eq_true rfl, Nat.le_of_ble_eq_true rfl⟩) ?_
          refine lv_iadd hx hb dX4_run_21 ?_
          refine lv_istore_n (lv' := [(2, .int (x2 + (nI (m_rf ow (m_atF ow j))))), (0, .ref h0), (1, .int p0), (3, .int x3)]) hx hb dX4_run_22 rfl hl (by decide) rfl (fun ls hl => ?_)
          refine lv_iinc (v := x3 + 1) (lv' := [(3, .int (x3 + 1)), (2, .int (x2 + (nI (m_rf ow (m_atF ow j))))), (0, .ref h0), (1, .int p0)]) hx hb dX4_run_23 hl (k := 3) rfl (by rfl) (by decide) rfl (fun ls hl => ?_)
          refine lv_goto (tgt := 4) hx hb dX4_run_26 (by decide) ?_
          exact ih (j + 1) (x2 + (nI (m_rf ow (m_atF ow j)))) (x3 + 1) (z_c_g hj ex3 c_1) (by omega) (by rw [ex3, nI_succ]) (by rw [m_at_s (z48_s (m_at_le ow j) ex2 c_5)]; exact z_pl ex2 rfl) H locs ls hP hD hS (lv_sub hl [2, 3, 1, 0] rfl)
  refine lv_iconst (v := 0) hx hb dX4_run_0 (by decide) ?_
  refine lv_istore_n (lv' := [(2, .int 0), (0, .ref h0), (1, .int p0)]) hx hb dX4_run_1 rfl hl (by decide) rfl (fun ls hl => ?_)
  refine lv_iconst (v := 0) hx hb dX4_run_2 (by decide) ?_
  refine lv_istore_n (lv' := [(3, .int 0), (2, .int 0), (0, .ref h0), (1, .int p0)]) hx hb dX4_run_3 rfl hl (by decide) rfl (fun ls hl => ?_)
  exact L4 (p0.toNatClampNeg + 1) 0 0 0 (Nat.zero_le _) (by omega) nI_0.symm nI_0.symm H locs ls hP hD hS (lv_sub hl [2, 3, 1, 0] rfl)
