theorem qd_X4_enter : yX4_enter.cls = RX4 ∧ yX4_enter.cls ≠ "java/lang/invoke/MethodHandle" ∧ yX4_enter.cls ≠ "java/lang/invoke/VarHandle" ∧ (parseMethodDescriptor yX4_enter.desc).map (fun d => d.parameters.length) = some 2 := by decide +kernel
set_option maxHeartbeats 400000 in
set_option maxRecDepth 100000 in
/-- enter -/
theorem c_X4_enter (l : Launch) (D : va_G) (cI : ClassId) (h0 : Nat) (g1 : Nat) (g2 : Nat) (g3 : Nat) (g4 : Nat) (g5 : Nat) (g6 : Nat) (code : Int32) (qq : zQ) (wi : Bool) (mo : Bool) (mv : Int32) (fr : Int32) (sh : Int32) (gr : Int32) (cp : Int32) (ra : Int32) (rl : Int32) (ow : zA) (nx : zA) (ki : zA) (na : zA) (ha : zA) (p0 : Int32) (p1 : Int32) (sz : Nat) (h4 : m_hand ki ha (nI 4) = 0) (hwn : ∀ y, y = m_want ow p1 → y = nI y.toNatClampNeg) (hff : ∀ y, y = m_want ow p1 → (m_fitR ow y ra).1 = true → m_ff ki < 17) : Met l yX4_enter wsX4_enter ({ frames := 2, cells := 0, slots := 0, locals := 47 }) (z_Pw D cI [.ref h0, .int p0, .int p1] [(h0, .inr (4, [.int code, .int (zb qq.1), .int qq.2.1, .int qq.2.2.1, .ref g1, .ref g2, .ref g3, .ref g4, .ref g5, .ref g6, .int (zb qq.2.2.2), .int (zb wi), .int (zb mo), .int mv, .int fr, .int sh, .int gr, .int cp, .int ra, .int rl])), (g2, .inl (cI, 48, .inl ow)), (g3, .inl (cI, 48, .inl nx)), (g4, .inl (cI, 17, .inl ki)), (g5, .inl (cI, 17, .inl na)), (g6, .inl (cI, 17, .inl ha))] sz) (z_Wo D (some (.int ((m_enter qq wi ow nx ki na ha ra rl p0 p1).1))) [(h0, .inr (4, [.int ((m_enter qq wi ow nx ki na ha ra rl p0 p1).2.1), .int (zb ((m_enter qq wi ow nx ki na ha ra rl p0 p1).2.2.1).1), .int (((m_enter qq wi ow nx ki na ha ra rl p0 p1).2.2.1).2.1), .int (((m_enter qq wi ow nx ki na ha ra rl p0 p1).2.2.1).2.2.1), .ref g1, .ref g2, .ref g3, .ref g4, .ref g5, .ref g6, .int (zb ((m_enter qq wi ow nx ki na ha ra rl p0 p1).2.2.1).2.2.2), .int (zb wi), .int (zb mo), .int mv, .int fr, .int sh, .int gr, .int cp, .int ((m_enter qq wi ow nx ki na ha ra rl p0 p1).2.2.2.2.2.2.2.2.1), .int ((m_enter qq wi ow nx ki na ha ra rl p0 p1).2.2.2.2.2.2.2.2.2)])), (g2, .inl (cI, 48, .inl ((m_enter qq wi ow nx ki na ha ra rl p0 p1).2.2.2.1))), (g3, .inl (cI, 48, .inl ((m_enter qq wi ow nx ki na ha ra rl p0 p1).2.2.2.2.1))), (g4, .inl (cI, 17, .inl ((m_enter qq wi ow nx ki na ha ra rl p0 p1).2.2.2.2.2.1))), (g5, .inl (cI, 17, .inl ((m_enter qq wi ow nx ki na ha ra rl p0 p1).2.2.2.2.2.2.1))), (g6, .inl (cI, 17, .inl ((m_enter qq wi ow nx ki na ha ra rl p0 p1).2.2.2.2.2.2.2.1)))] (va_A [(h0, .inr (4, [.int code, .int (zb qq.1), .int qq.2.1, .int qq.2.2.1, .ref g1, .ref g2, .ref g3, .ref g4, .ref g5, .ref g6, .int (zb qq.2.2.2), .int (zb wi), .int (zb mo), .int mv, .int fr, .int sh, .int gr, .int cp, .int ra, .int rl])), (g2, .inl (cI, 48, .inl ow)), (g3, .inl (cI, 48, .inl nx)), (g4, .inl (cI, 17, .inl ki)), (g5, .inl (cI, 17, .inl na)), (g6, .inl (cI, 17, .inl ha))] sz)) 0 0 (va_A [(h0, .inr (4, [.int code, .int (zb qq.1), .int qq.2.1, .int qq.2.2.1, .ref g1, .ref g2, .ref g3, .ref g4, .ref g5, .ref g6, .int (zb qq.2.2.2), .int (zb wi), .int (zb mo), .int mv, .int fr, .int sh, .int gr, .int cp, .int ra, .int rl])), (g2, .inl (cI, 48, .inl ow)), (g3, .inl (cI, 48, .inl nx)), (g4, .inl (cI, 17, .inl ki)), (g5, .inl (cI, 17, .inl na)), (g6, .inl (cI, 17, .inl ha))] sz) := by
  refine Met.ofW (cc := cX4_enter) (maxL := 7) (ret := (some .int)) (by decide) rfl ?_
  intro p e s m args below meth c s₁ B hml hv
  obtain ⟨rfl, hsz, hP, hK, hD0⟩ := hv
  have hx := B.exec
  have hb := B.bytes
  have hr := B.returns
  have hts := atoms_spec (ws := wsX4_enter) B.pre
  have hown : s.vm.findClass RX4 = some m.cls := findClass_of_methodNamed B.named
  have hlocks := B.notSynchronized
  subst hsz
  have hD := hD0.self (sz := s.heap.size)
  generalize hAe : va_A [(h0, .inr (4, [.int code, .int (zb qq.1), .int qq.2.1, .int qq.2.2.1, .ref g1, .ref g2, .ref g3, .ref g4, .ref g5, .ref g6, .int (zb qq.2.2.2), .int (zb wi), .int (zb mo), .int mv, .int fr, .int sh, .int gr, .int cp, .int ra, .int rl])), (g2, .inl (cI, 48, .inl ow)), (g3, .inl (cI, 48, .inl nx)), (g4, .inl (cI, 17, .inl ki)), (g5, .inl (cI, 17, .inl na)), (g6, .inl (cI, 17, .inl ha))] s.heap.size = A at hD ⊢
  have hA : ∀ q : Nat, s.heap.size ≤ q → A q := fun q h => by rw [← hAe]; exact Or.inr h
  have hS : va_S A s.heap s.heap [] := va_S.rf
  have hP : va_P D vwCl [(h0, .inr (4, [.int code, .int (zb qq.1), .int qq.2.1, .int qq.2.2.1, .ref g1, .ref g2, .ref g3, .ref g4, .ref g5, .ref g6, .int (zb qq.2.2.2), .int (zb wi), .int (zb mo), .int mv, .int fr, .int sh, .int gr, .int cp, .int ra, .int rl])), (g2, .inl (cI, 48, .inl ow)), (g3, .inl (cI, 48, .inl nx)), (g4, .inl (cI, 17, .inl ki)), (g5, .inl (cI, 17, .inl na)), (g6, .inl (cI, 17, .inl ha))] s.heap := hP
  have hl := lv_entry ([.ref h0, .int p0, .int p1]) (n := 7) (Nat.le_of_ble_eq_true rfl)
  rw [lg_entry_eq]
  generalize (lg_sl ([.ref h0, .int p0, .int p1]) ++ List.replicate (7 - (lg_sl ([.ref h0, .int p0, .int p1])).length) Slot.unset).toArray = ls at hl ⊢
  have hl : lv_has ls 7 [(0, .ref h0), (1, .int p0), (2, .int p1)] := hl
  refine z_start hP hS (fun H locs hP hS => ?_)
  have hin4 : ∀ w ∈ wsX40, w ∈ wsX4_enter := by decide +kernel
  have hf27 := hts (.fieldLink RX4 27 "SqueezedVolumeModel" "kind" "[I") (by decide +kernel)
  have hf30 := hts (.fieldLink RX4 30 "SqueezedVolumeModel" "name" "[I") (by decide +kernel)
  have hf33 := hts (.fieldLink RX4 33 "SqueezedVolumeModel" "handle" "[I") (by decide +kernel)
  have hf63 := hts (.fieldLink RX4 63 "SqueezedVolumeModel" "runAt" "I") (by decide +kernel)
  have hf36 := hts (.fieldLink RX4 36 "SqueezedVolumeModel" "code" "I") (by decide +kernel)
  have hf24 := hts (.fieldLink RX4 24 "SqueezedVolumeModel" "next" "[I") (by decide +kernel)
  have hf7 := hts (.fieldLink RX4 7 "SqueezedVolumeModel" "on" "Z") (by decide +kernel)
  have L229 : ∀ (k : Nat) (h9 : Nat) (f9 : Nat) (x5 : Int32) (x6 : Int32) (qq2 : zQ) (ow2 : zA) (nx1 : zA) (ra1 : Int32) (rl1 : Int32), (h9 ≤ 4) → (4 + 1 ≤ h9 + k) → (x6 = nI h9) → (x5 = nI f9) → (f9 + 1 ≤ 17) → (m_enter qq wi ow nx ki na ha ra rl p0 p1 = m_ent3 qq wi ow nx1 ki na ha f9 p0 ra1 rl1) → (m_runF nx1 48 ≤ 16) → (m_change qq wi ow nx1 = (true, qq2, ow2)) → (m_fhF ki ha (4 - h9) h9 = m_fh ki ha) → ∀ (H : Heap) (locs : List Loc) (ls : Array Slot), va_P D vwCl [(h0, .inr (4, [.int 0, .int (zb qq2.1), .int qq2.2.1, .int qq2.2.2.1, .ref g1, .ref g2, .ref g3, .ref g4, .ref g5, .ref g6, .int (zb qq2.2.2.2), .int (zb wi), .int (zb mo), .int mv, .int fr, .int sh, .int gr, .int cp, .int ra1, .int rl1])), (g2, .inl (cI, 48, .inl ow2)), (g3, .inl (cI, 48, .inl nx1)), (g4, .inl (cI, 17, .inl ki)), (g5, .inl (cI, 17, .inl na)), (g6, .inl (cI, 17, .inl ha))] H → va_D A [(h0, .inr (4, [.int 0, .int (zb qq2.1), .int qq2.2.1, .int qq2.2.2.1, .ref g1, .ref g2, .ref g3, .ref g4, .ref g5, .ref g6, .int (zb qq2.2.2.2), .int (zb wi), .int (zb mo), .int mv, .int fr, .int sh, .int gr, .int cp, .int ra1, .int rl1])), (g2, .inl (cI, 48, .inl ow2)), (g3, .inl (cI, 48, .inl nx1)), (g4, .inl (cI, 17, .inl ki)), (g5, .inl (cI, 17, .inl na)), (g6, .inl (cI, 17, .inl ha))] → va_S A s.heap H locs → lv_has ls 7 [(0, .ref h0), (1, .int p0), (2, .int p1), (5, .int x5), (6, .int x6)] → W p l e ({ frames := 2, cells := 0, slots := 0, locals := 47 }) s m ([.ref h0, .int p0, .int p1] : List Value).toArray below meth c H locs 0 0 (MQ below (z_Wo D (some (.int ((m_enter qq wi ow nx ki na ha ra rl p0 p1).1))) [(h0, .inr (4, [.int ((m_enter qq wi ow nx ki na ha ra rl p0 p1).2.1), .int (zb ((m_enter qq wi ow nx ki na ha ra rl p0 p1).2.2.1).1), .int (((m_enter qq wi ow nx ki na ha ra rl p0 p1).2.2.1).2.1), .int (((m_enter qq wi ow nx ki na ha ra rl p0 p1).2.2.1).2.2.1), .ref g1, .ref g2, .ref g3, .ref g4, .ref g5, .ref g6, .int (zb ((m_enter qq wi ow nx ki na ha ra rl p0 p1).2.2.1).2.2.2), .int (zb wi), .int (zb mo), .int mv, .int fr, .int sh, .int gr, .int cp, .int ((m_enter qq wi ow nx ki na ha ra rl p0 p1).2.2.2.2.2.2.2.2.1), .int ((m_enter qq wi ow nx ki na ha ra rl p0 p1).2.2.2.2.2.2.2.2.2)])), (g2, .inl (cI, 48, .inl ((m_enter qq wi ow nx ki na ha ra rl p0 p1).2.2.2.1))), (g3, .inl (cI, 48, .inl ((m_enter qq wi ow nx ki na ha ra rl p0 p1).2.2.2.2.1))), (g4, .inl (cI, 17, .inl ((m_enter qq wi ow nx ki na ha ra rl p0 p1).2.2.2.2.2.1))), (g5, .inl (cI, 17, .inl ((m_enter qq wi ow nx ki na ha ra rl p0 p1).2.2.2.2.2.2.1))), (g6, .inl (cI, 17, .inl ((m_enter qq wi ow nx ki na ha ra rl p0 p1).2.2.2.2.2.2.2.1)))] A) ([.ref h0, .int p0, .int p1] : List Value).toArray s 0 0 A) (F0 m 229 ls []) := by
    intro k
    induction k with
    | zero =>
      intro h9 f9 x5 x6 qq2 ow2 nx1 ra1 rl1 hh hk ex6 ef hf hp3 hr16 hC er
      exfalso; omega
    | succ k ih =>
      intro h9 f9 x5 x6 qq2 ow2 nx1 ra1 rl1 hh hk ex6 ef hf hp3 hr16 hC er
      intro H locs ls hP hD hS hl
      refine lv_aload_n hx hb dX4_enter_229 rfl (lv_at hl 0 rfl) ?_
      refine lv_iload hx hb dX4_enter_230 (lv_at hl 4 rfl) ?_
      refine z_callRi (va_runV (As := [.int x6]) (rest := []) ⟨hx, hb, hml, hown, hts⟩ (c_X4_byHandle l D cI h0 g1 g2 g3 g4 g5 g6 0 qq2 wi mo mv fr sh gr cp ra1 rl1 ki ha x6) (cwV 1 hts gX4_enter_X4_byHandle rfl rfl rfl qd_X4_byHandle ⟨Nat.le_of_ble_eq_true rfl, Nat.le_of_ble_eq_true rfl⟩) ⟨z_Pr_blind, va_recv hK hP (ci := 4) (q0 := 0) rfl rfl, fun U hU hW => ⟨rfl, by rw [hU]; exact hP.sub (ws' := [(h0, .inr (4, [.int 0, .int (zb qq2.1), .int qq2.2.1, .int qq2.2.2.1, .ref g1, .ref g2, .ref g3, .ref g4, .ref g5, .ref g6, .int (zb qq2.2.2.2), .int (zb wi), .int (zb mo), .int mv, .int fr, .int sh, .int gr, .int cp, .int ra1, .int rl1])), (g4, .inl (cI, 17, .inl ki)), (g6, .inl (cI, 17, .inl ha))]) [0, 3, 5] rfl, va_K.moved hW.alike hK⟩⟩ rfl rfl hl.1 rfl (lv_room (Nat.le_of_ble_eq_true rfl)) dX4_enter_232 ⟨Nat.le_of_ble_eq_true rfl, Nat.le_of_ble_eq_true rfl⟩) ?_
      refine lv_if_le (tgt := 244) hx hb dX4_enter_235 (by decide) (fun c_1 => ?_) (fun c_1 => ?_)
      · skip
        refine lv_aload_n hx hb dX4_enter_244 rfl (lv_at hl 0 rfl) ?_
        refine va_get (D := D) (ci := 4) (v := .ref g4) (C := RX4) (T := TX4) (N := 20) hx hb hts hin4 hown hK hP 0 rfl rfl 7 (by decide) hf27 (fun _ h9 => h9) rfl dX4_enter_245 ?_
        refine lv_iload hx hb dX4_enter_248 (lv_at hl 3 rfl) ?_
        refine lv_iconst (v := 1) hx hb dX4_enter_250 (by decide) ?_
        refine va_iast hx hb hK hP hD hS 3 0 rfl rfl (z_ix ef hf (by decide)) dX4_enter_251 (fun H locs hP hD hS => ?_)
        rw [z_ic ef hf (by decide)] at hP hD
        have hP : va_P D vwCl [(h0, .inr (4, [.int 0, .int (zb qq2.1), .int qq2.2.1, .int qq2.2.2.1, .ref g1, .ref g2, .ref g3, .ref g4, .ref g5, .ref g6, .int (zb qq2.2.2.2), .int (zb wi), .int (zb mo), .int mv, .int fr, .int sh, .int gr, .int cp, .int ra1, .int rl1])), (g2, .inl (cI, 48, .inl ow2)), (g3, .inl (cI, 48, .inl nx1)), (g4, .inl (cI, 17, .inl (upd ki f9 1))), (g5, .inl (cI, 17, .inl na)), (g6, .inl (cI, 17, .inl ha))] H := hP
        have hD : va_D A [(h0, .inr (4, [.int 0, .int (zb qq2.1), .int qq2.2.1, .int qq2.2.2.1, .ref g1, .ref g2, .ref g3, .ref g4, .ref g5, .ref g6, .int (zb qq2.2.2.2), .int (zb wi), .int (zb mo), .int mv, .int fr, .int sh, .int gr, .int cp, .int ra1, .int rl1])), (g2, .inl (cI, 48, .inl ow2)), (g3, .inl (cI, 48, .inl nx1)), (g4, .inl (cI, 17, .inl (upd ki f9 1))), (g5, .inl (cI, 17, .inl na)), (g6, .inl (cI, 17, .inl ha))] := hD
        refine lv_aload_n hx hb dX4_enter_252 rfl (lv_at hl 0 rfl) ?_
        refine va_get (D := D) (ci := 4) (v := .ref g5) (C := RX4) (T := TX4) (N := 20) hx hb hts hin4 hown hK hP 0 rfl rfl 8 (by decide) hf30 (fun _ h9 => h9) rfl dX4_enter_253 ?_
        refine lv_iload hx hb dX4_enter_256 (lv_at hl 3 rfl) ?_
        refine lv_iload_n hx hb dX4_enter_258 rfl (lv_at hl 1 rfl) ?_
        refine va_iast hx hb hK hP hD hS 4 0 rfl rfl (z_ix ef hf (by decide)) dX4_enter_259 (fun H locs hP hD hS => ?_)
        rw [z_ic ef hf (by decide)] at hP hD
        have hP : va_P D vwCl [(h0, .inr (4, [.int 0, .int (zb qq2.1), .int qq2.2.1, .int qq2.2.2.1, .ref g1, .ref g2, .ref g3, .ref g4, .ref g5, .ref g6, .int (zb qq2.2.2.2), .int (zb wi), .int (zb mo), .int mv, .int fr, .int sh, .int gr, .int cp, .int ra1, .int rl1])), (g2, .inl (cI, 48, .inl ow2)), (g3, .inl (cI, 48, .inl nx1)), (g4, .inl (cI, 17, .inl (upd ki f9 1))), (g5, .inl (cI, 17, .inl (upd na f9 p0))), (g6, .inl (cI, 17, .inl ha))] H := hP
        have hD : va_D A [(h0, .inr (4, [.int 0, .int (zb qq2.1), .int qq2.2.1, .int qq2.2.2.1, .ref g1, .ref g2, .ref g3, .ref g4, .ref g5, .ref g6, .int (zb qq2.2.2.2), .int (zb wi), .int (zb mo), .int mv, .int fr, .int sh, .int gr, .int cp, .int ra1, .int rl1])), (g2, .inl (cI, 48, .inl ow2)), (g3, .inl (cI, 48, .inl nx1)), (g4, .inl (cI, 17, .inl (upd ki f9 1))), (g5, .inl (cI, 17, .inl (upd na f9 p0))), (g6, .inl (cI, 17, .inl ha))] := hD
        refine lv_aload_n hx hb dX4_enter_260 rfl (lv_at hl 0 rfl) ?_
        refine va_get (D := D) (ci := 4) (v := .ref g6) (C := RX4) (T := TX4) (N := 20) hx hb hts hin4 hown hK hP 0 rfl rfl 9 (by decide) hf33 (fun _ h9 => h9) rfl dX4_enter_261 ?_
        refine lv_iload hx hb dX4_enter_264 (lv_at hl 3 rfl) ?_
        refine lv_iload hx hb dX4_enter_266 (lv_at hl 4 rfl) ?_
        refine va_iast hx hb hK hP hD hS 5 0 rfl rfl (z_ix ef hf (by decide)) dX4_enter_268 (fun H locs hP hD hS => ?_)
        rw [z_ic ef hf (by decide)] at hP hD
        have hP : va_P D vwCl [(h0, .inr (4, [.int 0, .int (zb qq2.1), .int qq2.2.1, .int qq2.2.2.1, .ref g1, .ref g2, .ref g3, .ref g4, .ref g5, .ref g6, .int (zb qq2.2.2.2), .int (zb wi), .int (zb mo), .int mv, .int fr, .int sh, .int gr, .int cp, .int ra1, .int rl1])), (g2, .inl (cI, 48, .inl ow2)), (g3, .inl (cI, 48, .inl nx1)), (g4, .inl (cI, 17, .inl (upd ki f9 1))), (g5, .inl (cI, 17, .inl (upd na f9 p0))), (g6, .inl (cI, 17, .inl (upd ha f9 x6)))] H := hP
        have hD : va_D A [(h0, .inr (4, [.int 0, .int (zb qq2.1), .int qq2.2.1, .int qq2.2.2.1, .ref g1, .ref g2, .ref g3, .ref g4, .ref g5, .ref g6, .int (zb qq2.2.2.2), .int (zb wi), .int (zb mo), .int mv, .int fr, .int sh, .int gr, .int cp, .int ra1, .int rl1])), (g2, .inl (cI, 48, .inl ow2)), (g3, .inl (cI, 48, .inl nx1)), (g4, .inl (cI, 17, .inl (upd ki f9 1))), (g5, .inl (cI, 17, .inl (upd na f9 p0))), (g6, .inl (cI, 17, .inl (upd ha f9 x6)))] := hD
        refine lv_iload hx hb dX4_enter_269 (lv_at hl 4 rfl) ?_
        have hE : m_enter qq wi ow nx ki na ha ra rl p0 p1 = (x6, 0, qq2, ow2, nx1, upd ki f9 1, upd na f9 p0, upd ha f9 x6, ra1, rl1) := by rw [hp3]; simp only [m_ent3, if_pos hr16, hC, Bool.true_eq_false, if_false, m_fh_f er hh (by rw [← ex6]; exact c_1), ← ex6]
        have hPz : va_P D vwCl [(h0, .inr (4, [.int ((m_enter qq wi ow nx ki na ha ra rl p0 p1).2.1), .int (zb ((m_enter qq wi ow nx ki na ha ra rl p0 p1).2.2.1).1), .int (((m_enter qq wi ow nx ki na ha ra rl p0 p1).2.2.1).2.1), .int (((m_enter qq wi ow nx ki na ha ra rl p0 p1).2.2.1).2.2.1), .ref g1, .ref g2, .ref g3, .ref g4, .ref g5, .ref g6, .int (zb ((m_enter qq wi ow nx ki na ha ra rl p0 p1).2.2.1).2.2.2), .int (zb wi), .int (zb mo), .int mv, .int fr, .int sh, .int gr, .int cp, .int ((m_enter qq wi ow nx ki na ha ra rl p0 p1).2.2.2.2.2.2.2.2.1), .int ((m_enter qq wi ow nx ki na ha ra rl p0 p1).2.2.2.2.2.2.2.2.2)])), (g2, .inl (cI, 48, .inl ((m_enter qq wi ow nx ki na ha ra rl p0 p1).2.2.2.1))), (g3, .inl (cI, 48, .inl ((m_enter qq wi ow nx ki na ha ra rl p0 p1).2.2.2.2.1))), (g4, .inl (cI, 17, .inl ((m_enter qq wi ow nx ki na ha ra rl p0 p1).2.2.2.2.2.1))), (g5, .inl (cI, 17, .inl ((m_enter qq wi ow nx ki na ha ra rl p0 p1).2.2.2.2.2.2.1))), (g6, .inl (cI, 17, .inl ((m_enter qq wi ow nx ki na ha ra rl p0 p1).2.2.2.2.2.2.2.1)))] H := by rw [hE]; exact hP
        have hRr : x6 = (m_enter qq wi ow nx ki na ha ra rl p0 p1).1 := by first | (rw [hE]; done) | (rw [hE]; rfl)
        exact W.iret (v := x6) hx hb hr (fun t ht hW => ⟨⟨z_ret hRr, by rw [ht]; exact hPz⟩, hS.F ht⟩) hS.2.2 dX4_enter_271
      · skip
        refine lv_iinc (v := x6 + 1) (lv' := [(6, .int (x6 + 1)), (0, .ref h0), (1, .int p0), (2, .int p1), (5, .int x5)]) hx hb dX4_enter_238 hl (k := 4) rfl (by rfl) (by decide) rfl (fun ls hl => ?_)
        refine lv_goto (tgt := 229) hx hb dX4_enter_241 (by decide) ?_
        exact ih (h9 + 1) f9 x5 (x6 + 1) qq2 ow2 nx1 ra1 rl1 (m_fh_4 h4 hh (by rw [← ex6]; exact c_1)) (by omega) (z_sx ex6) ef hf hp3 hr16 hC (m_fh_s er (m_fh_4 h4 hh (by rw [← ex6]; exact c_1)) (by rw [← ex6]; exact c_1)) H locs ls hP hD hS (lv_sub hl [1, 2, 3, 4, 0] rfl)
  have L163 : ∀ (k : Nat) (j : Nat) (a9 : Nat) (f9 : Nat) (x4 : Int32) (x5 : Int32) (x6 : Int32) (nx1 : zA) (ra1 : Int32) (rl1 : Int32), (j ≤ x4.toNatClampNeg) → (x4.toNatClampNeg + 1 ≤ j + k) → (ra1 = nI a9) → (x4 = nI x4.toNatClampNeg) → (a9 + x4.toNatClampNeg ≤ 48) → (x6 = nI (a9 + j)) → (x5 = nI f9) → (f9 + 1 ≤ 17) → (nx1 = m_fillF (m_cp nx ow) a9 (nI f9) j) → (m_enter qq wi ow nx ki na ha ra rl p0 p1 = m_ent3 qq wi ow (m_fillF (m_cp nx ow) a9 (nI f9) x4.toNatClampNeg) ki na ha f9 p0 ra1 rl1) → ∀ (H : Heap) (locs : List Loc) (ls : Array Slot), va_P D vwCl [(h0, .inr (4, [.int 0, .int (zb qq.1), .int qq.2.1, .int qq.2.2.1, .ref g1, .ref g2, .ref g3, .ref g4, .ref g5, .ref g6, .int (zb qq.2.2.2), .int (zb wi), .int (zb mo), .int mv, .int fr, .int sh, .int gr, .int cp, .int ra1, .int rl1])), (g2, .inl (cI, 48, .inl ow)), (g3, .inl (cI, 48, .inl nx1)), (g4, .inl (cI, 17, .inl ki)), (g5, .inl (cI, 17, .inl na)), (g6, .inl (cI, 17, .inl ha))] H → va_D A [(h0, .inr (4, [.int 0, .int (zb qq.1), .int qq.2.1, .int qq.2.2.1, .ref g1, .ref g2, .ref g3, .ref g4, .ref g5, .ref g6, .int (zb qq.2.2.2), .int (zb wi), .int (zb mo), .int mv, .int fr, .int sh, .int gr, .int cp, .int ra1, .int rl1])), (g2, .inl (cI, 48, .inl ow)), (g3, .inl (cI, 48, .inl nx1)), (g4, .inl (cI, 17, .inl ki)), (g5, .inl (cI, 17, .inl na)), (g6, .inl (cI, 17, .inl ha))] → va_S A s.heap H locs → lv_has ls 7 [(0, .ref h0), (1, .int p0), (2, .int p1), (4, .int x4), (5, .int x5), (6, .int x6)] → W p l e ({ frames := 2, cells := 0, slots := 0, locals := 47 }) s m ([.ref h0, .int p0, .int p1] : List Value).toArray below meth c H locs 0 0 (MQ below (z_Wo D (some (.int ((m_enter qq wi ow nx ki na ha ra rl p0 p1).1))) [(h0, .inr (4, [.int ((m_enter qq wi ow nx ki na ha ra rl p0 p1).2.1), .int (zb ((m_enter qq wi ow nx ki na ha ra rl p0 p1).2.2.1).1), .int (((m_enter qq wi ow nx ki na ha ra rl p0 p1).2.2.1).2.1), .int (((m_enter qq wi ow nx ki na ha ra rl p0 p1).2.2.1).2.2.1), .ref g1, .ref g2, .ref g3, .ref g4, .ref g5, .ref g6, .int (zb ((m_enter qq wi ow nx ki na ha ra rl p0 p1).2.2.1).2.2.2), .int (zb wi), .int (zb mo), .int mv, .int fr, .int sh, .int gr, .int cp, .int ((m_enter qq wi ow nx ki na ha ra rl p0 p1).2.2.2.2.2.2.2.2.1), .int ((m_enter qq wi ow nx ki na ha ra rl p0 p1).2.2.2.2.2.2.2.2.2)])), (g2, .inl (cI, 48, .inl ((m_enter qq wi ow nx ki na ha ra rl p0 p1).2.2.2.1))), (g3, .inl (cI, 48, .inl ((m_enter qq wi ow nx ki na ha ra rl p0 p1).2.2.2.2.1))), (g4, .inl (cI, 17, .inl ((m_enter qq wi ow nx ki na ha ra rl p0 p1).2.2.2.2.2.1))), (g5, .inl (cI, 17, .inl ((m_enter qq wi ow nx ki na ha ra rl p0 p1).2.2.2.2.2.2.1))), (g6, .inl (cI, 17, .inl ((m_enter qq wi ow nx ki na ha ra rl p0 p1).2.2.2.2.2.2.2.1)))] A) ([.ref h0, .int p0, .int p1] : List Value).toArray s 0 0 A) (F0 m 163 ls []) := by
    intro k
    induction k with
    | zero =>
      intro j a9 f9 x4 x5 x6 nx1 ra1 rl1 hj hk ea ew haw ex6 ef hf en hp3
      exfalso; omega
    | succ k ih =>
      intro j a9 f9 x4 x5 x6 nx1 ra1 rl1 hj hk ea ew haw ex6 ef hf en hp3
      intro H locs ls hP hD hS hl
      refine lv_iload hx hb dX4_enter_163 (lv_at hl 5 rfl) ?_
      refine lv_aload_n hx hb dX4_enter_165 rfl (lv_at hl 0 rfl) ?_
      refine va_get (D := D) (ci := 4) (v := .int ra1) (C := RX4) (T := TX4) (N := 20) hx hb hts hin4 hown hK hP 0 rfl rfl 18 (by decide) hf63 (fun _ h9 => h9) rfl dX4_enter_166 ?_
      refine lv_iload hx hb dX4_enter_169 (lv_at hl 3 rfl) ?_
      refine lv_iadd hx hb dX4_enter_171 ?_
      refine lv_icmp_ge (tgt := 190) hx hb dX4_enter_172 (by decide) (fun c_2 => ?_) (fun c_2 => ?_)
      · skip
        have hjw := z_sum_e ea ew haw hj ex6 c_2
        rw [hjw] at en
        rw [← en] at hp3
        refine lv_aload_n hx hb dX4_enter_190 rfl (lv_at hl 0 rfl) ?_
        refine lv_aload_n hx hb dX4_enter_191 rfl (lv_at hl 0 rfl) ?_
        refine z_callRi (va_runV (As := []) (rest := [.ref h0]) ⟨hx, hb, hml, hown, hts⟩ (c_X4_runs l D cI h0 g1 g2 g3 g4 g5 g6 0 qq wi mo mv fr sh gr cp ra1 rl1 nx1) (cwV 0 hts gX4_enter_X4_runs rfl rfl rfl qd_X4_runs ⟨Nat.le_of_ble_eq_true rfl, Nat.le_of_ble_eq_true rfl⟩) ⟨z_Pr_blind, va_recv hK hP (ci := 4) (q0 := 0) rfl rfl, fun U hU hW => ⟨rfl, by rw [hU]; exact hP.sub (ws' := [(h0, .inr (4, [.int 0, .int (zb qq.1), .int qq.2.1, .int qq.2.2.1, .ref g1, .ref g2, .ref g3, .ref g4, .ref g5, .ref g6, .int (zb qq.2.2.2), .int (zb wi), .int (zb mo), .int mv, .int fr, .int sh, .int gr, .int cp, .int ra1, .int rl1])), (g3, .inl (cI, 48, .inl nx1))]) [0, 2] rfl, va_K.moved hW.alike hK⟩⟩ rfl rfl hl.1 rfl (lv_room (Nat.le_of_ble_eq_true rfl)) dX4_enter_192 ⟨Nat.le_of_ble_eq_true rfl, Nat.le_of_ble_eq_true rfl⟩) ?_
        refine lv_bipush (v := 16) hx hb dX4_enter_195 (by decide) ?_
        refine lv_icmp_le (tgt := 204) hx hb dX4_enter_197 (by decide) (fun c_3 => ?_) (fun c_3 => ?_)
        · skip
          refine lv_iconst (v := 0) hx hb dX4_enter_204 (by decide) ?_
          refine va_put (D := D) (ci := 4) (v := .int 0) (ty := .int) (C := RX4) (T := TX4) (N := 20) hx hb hts hin4 tyX4 tyX4_ok nmX4 hown hK hP hD hS 0 rfl rfl 0 (by decide) hf36 (fun _ h9 => h9) rfl (by decide +kernel) rfl rfl (Nat.le_of_ble_eq_true rfl) dX4_enter_205 (fun H locs hP hD hS => ?_)
          have hP : va_P D vwCl [(h0, .inr (4, [.int 0, .int (zb qq.1), .int qq.2.1, .int qq.2.2.1, .ref g1, .ref g2, .ref g3, .ref g4, .ref g5, .ref g6, .int (zb qq.2.2.2), .int (zb wi), .int (zb mo), .int mv, .int fr, .int sh, .int gr, .int cp, .int ra1, .int rl1])), (g2, .inl (cI, 48, .inl ow)), (g3, .inl (cI, 48, .inl nx1)), (g4, .inl (cI, 17, .inl ki)), (g5, .inl (cI, 17, .inl na)), (g6, .inl (cI, 17, .inl ha))] H := hP
          have hD : va_D A [(h0, .inr (4, [.int 0, .int (zb qq.1), .int qq.2.1, .int qq.2.2.1, .ref g1, .ref g2, .ref g3, .ref g4, .ref g5, .ref g6, .int (zb qq.2.2.2), .int (zb wi), .int (zb mo), .int mv, .int fr, .int sh, .int gr, .int cp, .int ra1, .int rl1])), (g2, .inl (cI, 48, .inl ow)), (g3, .inl (cI, 48, .inl nx1)), (g4, .inl (cI, 17, .inl ki)), (g5, .inl (cI, 17, .inl na)), (g6, .inl (cI, 17, .inl ha))] := hD
          refine lv_aload_n hx hb dX4_enter_208 rfl (lv_at hl 0 rfl) ?_
          refine va_get (D := D) (ci := 4) (v := .int 0) (C := RX4) (T := TX4) (N := 20) hx hb hts hin4 hown hK hP 0 rfl rfl 0 (by decide) hf36 (fun _ h9 => h9) rfl dX4_enter_209 ?_
          refine lv_if_le (tgt := 217) hx hb dX4_enter_212 (by decide) (fun c_4 => ?_) (fun c_4 => ?_)
          · skip
            refine lv_aload_n hx hb dX4_enter_217 rfl (lv_at hl 0 rfl) ?_
            have hPc : va_P D vwCl [(h0, .inr (4, [.int 0, .int (zb qq.1), .int qq.2.1, .int qq.2.2.1, .ref g1, .ref g2, .ref g3, .ref g4, .ref g5, .ref g6, .int (zb qq.2.2.2), .int (zb wi), .int (zb mo), .int mv, .int fr, .int sh, .int gr, .int cp, .int ra1, .int rl1])), (g2, .inl (cI, 48, .inl ow)), (g3, .inl (cI, 48, .inl nx1))] H := hP.sub [0, 1, 2] rfl
            have hDc : va_D A [(h0, .inr (4, [.int 0, .int (zb qq.1), .int qq.2.1, .int qq.2.2.1, .ref g1, .ref g2, .ref g3, .ref g4, .ref g5, .ref g6, .int (zb qq.2.2.2), .int (zb wi), .int (zb mo), .int mv, .int fr, .int sh, .int gr, .int cp, .int ra1, .int rl1])), (g2, .inl (cI, 48, .inl ow)), (g3, .inl (cI, 48, .inl nx1))] := hD.sub [0, 1, 2] (by decide) rfl
            refine z_callWi (ws' := [(h0, .inr (4, [.int 0, .int (zb ((m_change qq wi ow nx1).2.1).1), .int (((m_change qq wi ow nx1).2.1).2.1), .int (((m_change qq wi ow nx1).2.1).2.2.1), .ref g1, .ref g2, .ref g3, .ref g4, .ref g5, .ref g6, .int (zb ((m_change qq wi ow nx1).2.1).2.2.2), .int (zb wi), .int (zb mo), .int mv, .int fr, .int sh, .int gr, .int cp, .int ra1, .int rl1])), (g2, .inl (cI, 48, .inl ((m_change qq wi ow nx1).2.2))), (g3, .inl (cI, 48, .inl nx1)), (g4, .inl (cI, 17, .inl ki)), (g5, .inl (cI, 17, .inl na)), (g6, .inl (cI, 17, .inl ha))]) [0, 1, 2] [3, 4, 5] [(g4, .inl (cI, 17, .inl ki)), (g5, .inl (cI, 17, .inl na)), (g6, .inl (cI, 17, .inl ha))] [h0, g2, g3, g4, g5, g6] (va_runV (As := []) (rest := []) ⟨hx, hb, hml, hown, hts⟩ (c_X4_change l D cI h0 g1 g2 g3 g4 g5 g6 0 qq wi mo mv fr sh gr cp ra1 rl1 ow nx1 H.size) (cwV 0 hts gX4_enter_X4_change rfl rfl rfl qd_X4_change ⟨Nat.le_of_ble_eq_true rfl, Nat.le_of_ble_eq_true rfl⟩) ⟨z_Pw_blind, va_recv hK hP (ci := 4) (q0 := 0) rfl rfl, fun U hU hW => ⟨rfl, by rw [hU], by rw [hU]; exact hPc, va_K.moved hW.alike hK, hDc.weaken (fun _ _ _ _ => trivial)⟩⟩ rfl rfl hl.1 rfl (lv_room (Nat.le_of_ble_eq_true rfl)) dX4_enter_218 ⟨Nat.le_of_ble_eq_true rfl, Nat.le_of_ble_eq_true rfl⟩) hP hD hS hA ⟨rfl, rfl, rfl, rfl, rfl, rfl, rfl⟩ (fun H locs hP hD hS => ?_)
            generalize hs_5 : m_change qq wi ow nx1 = s_5 at hP hD ⊢
            refine lv_if_ne (tgt := 226) hx hb dX4_enter_221 (by decide) (fun c_6 => ?_) (fun c_6 => ?_)
            · skip
              refine lv_iconst (v := 0) hx hb dX4_enter_226 (by decide) ?_
              refine lv_istore (lv' := [(6, .int 0), (0, .ref h0), (1, .int p0), (2, .int p1), (4, .int x4), (5, .int x5)]) hx hb dX4_enter_227 hl (by decide) rfl (fun ls hl => ?_)
              exact L229 6 0 f9 x5 0 s_5.2.1 s_5.2.2 nx1 ra1 rl1 (by subst hs_5; exact (Nat.zero_le _)) (by subst hs_5; exact (by decide)) (by subst hs_5; exact nI_0.symm) (by subst hs_5; exact ef) (by subst hs_5; exact hf) (by subst hs_5; exact hp3) (by subst hs_5; exact c_3) (by subst hs_5; exact (z_p3 (z_b1 c_6))) (by subst hs_5; exact rfl) H locs ls hP hD hS (lv_sub hl [1, 2, 3, 5, 0] rfl)
            · skip
              refine lv_iconst (v := -1) hx hb dX4_enter_224 (by decide) ?_
              have hE : m_enter qq wi ow nx ki na ha ra rl p0 p1 = (-1, 0, s_5.2.1, s_5.2.2, nx1, ki, na, ha, ra1, rl1) := by subst hs_5; rw [hp3]; simp only [m_ent3, if_pos c_3, if_pos (z_b0 c_6)] <;> rfl
              have hPz : va_P D vwCl [(h0, .inr (4, [.int ((m_enter qq wi ow nx ki na ha ra rl p0 p1).2.1), .int (zb ((m_enter qq wi ow nx ki na ha ra rl p0 p1).2.2.1).1), .int (((m_enter qq wi ow nx ki na ha ra rl p0 p1).2.2.1).2.1), .int (((m_enter qq wi ow nx ki na ha ra rl p0 p1).2.2.1).2.2.1), .ref g1, .ref g2, .ref g3, .ref g4, .ref g5, .ref g6, .int (zb ((m_enter qq wi ow nx ki na ha ra rl p0 p1).2.2.1).2.2.2), .int (zb wi), .int (zb mo), .int mv, .int fr, .int sh, .int gr, .int cp, .int ((m_enter qq wi ow nx ki na ha ra rl p0 p1).2.2.2.2.2.2.2.2.1), .int ((m_enter qq wi ow nx ki na ha ra rl p0 p1).2.2.2.2.2.2.2.2.2)])), (g2, .inl (cI, 48, .inl ((m_enter qq wi ow nx ki na ha ra rl p0 p1).2.2.2.1))), (g3, .inl (cI, 48, .inl ((m_enter qq wi ow nx ki na ha ra rl p0 p1).2.2.2.2.1))), (g4, .inl (cI, 17, .inl ((m_enter qq wi ow nx ki na ha ra rl p0 p1).2.2.2.2.2.1))), (g5, .inl (cI, 17, .inl ((m_enter qq wi ow nx ki na ha ra rl p0 p1).2.2.2.2.2.2.1))), (g6, .inl (cI, 17, .inl ((m_enter qq wi ow nx ki na ha ra rl p0 p1).2.2.2.2.2.2.2.1)))] H := by rw [hE]; exact hP
              have hRr : -1 = (m_enter qq wi ow nx ki na ha ra rl p0 p1).1 := by first | (rw [hE]; done) | (rw [hE]; rfl)
              exact W.iret (v := -1) hx hb hr (fun t ht hW => ⟨⟨z_ret hRr, by rw [ht]; exact hPz⟩, hS.F ht⟩) hS.2.2 dX4_enter_225
          · skip
            exact absurd (by decide) c_4
        · skip
          refine lv_iconst (v := 3) hx hb dX4_enter_200 (by decide) ?_
          refine lv_goto (tgt := 205) hx hb dX4_enter_201 (by decide) ?_
          refine va_put (D := D) (ci := 4) (v := .int 3) (ty := .int) (C := RX4) (T := TX4) (N := 20) hx hb hts hin4 tyX4 tyX4_ok nmX4 hown hK hP hD hS 0 rfl rfl 0 (by decide) hf36 (fun _ h9 => h9) rfl (by decide +kernel) rfl rfl (Nat.le_of_ble_eq_true rfl) dX4_enter_205 (fun H locs hP hD hS => ?_)
          have hP : va_P D vwCl [(h0, .inr (4, [.int 3, .int (zb qq.1), .int qq.2.1, .int qq.2.2.1, .ref g1, .ref g2, .ref g3, .ref g4, .ref g5, .ref g6, .int (zb qq.2.2.2), .int (zb wi), .int (zb mo), .int mv, .int fr, .int sh, .int gr, .int cp, .int ra1, .int rl1])), (g2, .inl (cI, 48, .inl ow)), (g3, .inl (cI, 48, .inl nx1)), (g4, .inl (cI, 17, .inl ki)), (g5, .inl (cI, 17, .inl na)), (g6, .inl (cI, 17, .inl ha))] H := hP
          have hD : va_D A [(h0, .inr (4, [.int 3, .int (zb qq.1), .int qq.2.1, .int qq.2.2.1, .ref g1, .ref g2, .ref g3, .ref g4, .ref g5, .ref g6, .int (zb qq.2.2.2), .int (zb wi), .int (zb mo), .int mv, .int fr, .int sh, .int gr, .int cp, .int ra1, .int rl1])), (g2, .inl (cI, 48, .inl ow)), (g3, .inl (cI, 48, .inl nx1)), (g4, .inl (cI, 17, .inl ki)), (g5, .inl (cI, 17, .inl na)), (g6, .inl (cI, 17, .inl ha))] := hD
          refine lv_aload_n hx hb dX4_enter_208 rfl (lv_at hl 0 rfl) ?_
          refine va_get (D := D) (ci := 4) (v := .int 3) (C := RX4) (T := TX4) (N := 20) hx hb hts hin4 hown hK hP 0 rfl rfl 0 (by decide) hf36 (fun _ h9 => h9) rfl dX4_enter_209 ?_
          refine lv_if_le (tgt := 217) hx hb dX4_enter_212 (by decide) (fun c_7 => ?_) (fun c_7 => ?_)
          · skip
            exact absurd c_7 (by decide)
          · skip
            refine lv_iconst (v := 0) hx hb dX4_enter_215 (by decide) ?_
            have hE : m_enter qq wi ow nx ki na ha ra rl p0 p1 = (0, 3, qq, ow, nx1, ki, na, ha, ra1, rl1) := by rw [hp3]; simp only [m_ent3, if_neg c_3] <;> rfl
            have hPz : va_P D vwCl [(h0, .inr (4, [.int ((m_enter qq wi ow nx ki na ha ra rl p0 p1).2.1), .int (zb ((m_enter qq wi ow nx ki na ha ra rl p0 p1).2.2.1).1), .int (((m_enter qq wi ow nx ki na ha ra rl p0 p1).2.2.1).2.1), .int (((m_enter qq wi ow nx ki na ha ra rl p0 p1).2.2.1).2.2.1), .ref g1, .ref g2, .ref g3, .ref g4, .ref g5, .ref g6, .int (zb ((m_enter qq wi ow nx ki na ha ra rl p0 p1).2.2.1).2.2.2), .int (zb wi), .int (zb mo), .int mv, .int fr, .int sh, .int gr, .int cp, .int ((m_enter qq wi ow nx ki na ha ra rl p0 p1).2.2.2.2.2.2.2.2.1), .int ((m_enter qq wi ow nx ki na ha ra rl p0 p1).2.2.2.2.2.2.2.2.2)])), (g2, .inl (cI, 48, .inl ((m_enter qq wi ow nx ki na ha ra rl p0 p1).2.2.2.1))), (g3, .inl (cI, 48, .inl ((m_enter qq wi ow nx ki na ha ra rl p0 p1).2.2.2.2.1))), (g4, .inl (cI, 17, .inl ((m_enter qq wi ow nx ki na ha ra rl p0 p1).2.2.2.2.2.1))), (g5, .inl (cI, 17, .inl ((m_enter qq wi ow nx ki na ha ra rl p0 p1).2.2.2.2.2.2.1))), (g6, .inl (cI, 17, .inl ((m_enter qq wi ow nx ki na ha ra rl p0 p1).2.2.2.2.2.2.2.1)))] H := by rw [hE]; exact hP
            have hRr : 0 = (m_enter qq wi ow nx ki na ha ra rl p0 p1).1 := by first | (rw [hE]; done) | (rw [hE]; rfl)
            exact W.iret (v := 0) hx hb hr (fun t ht hW => ⟨⟨z_ret hRr, by rw [ht]; exact hPz⟩, hS.F ht⟩) hS.2.2 dX4_enter_216
      · skip
        refine lv_aload_n hx hb dX4_enter_175 rfl (lv_at hl 0 rfl) ?_
        refine va_get (D := D) (ci := 4) (v := .ref g3) (C := RX4) (T := TX4) (N := 20) hx hb hts hin4 hown hK hP 0 rfl rfl 6 (by decide) hf24 (fun _ h9 => h9) rfl dX4_enter_176 ?_
        refine lv_iload hx hb dX4_enter_179 (lv_at hl 5 rfl) ?_
        refine lv_iload hx hb dX4_enter_181 (lv_at hl 4 rfl) ?_
        refine va_iast hx hb hK hP hD hS 2 0 rfl rfl (z_ix ex6 (show a9 + j + 1 ≤ 48 by have h7 := z_sum_s ea ew haw hj ex6 c_2; omega) (by decide)) dX4_enter_183 (fun H locs hP hD hS => ?_)
        rw [z_ic ex6 (show a9 + j + 1 ≤ 48 by have h7 := z_sum_s ea ew haw hj ex6 c_2; omega) (by decide)] at hP hD
        have hP : va_P D vwCl [(h0, .inr (4, [.int 0, .int (zb qq.1), .int qq.2.1, .int qq.2.2.1, .ref g1, .ref g2, .ref g3, .ref g4, .ref g5, .ref g6, .int (zb qq.2.2.2), .int (zb wi), .int (zb mo), .int mv, .int fr, .int sh, .int gr, .int cp, .int ra1, .int rl1])), (g2, .inl (cI, 48, .inl ow)), (g3, .inl (cI, 48, .inl (upd nx1 (a9 + j) x5))), (g4, .inl (cI, 17, .inl ki)), (g5, .inl (cI, 17, .inl na)), (g6, .inl (cI, 17, .inl ha))] H := hP
        have hD : va_D A [(h0, .inr (4, [.int 0, .int (zb qq.1), .int qq.2.1, .int qq.2.2.1, .ref g1, .ref g2, .ref g3, .ref g4, .ref g5, .ref g6, .int (zb qq.2.2.2), .int (zb wi), .int (zb mo), .int mv, .int fr, .int sh, .int gr, .int cp, .int ra1, .int rl1])), (g2, .inl (cI, 48, .inl ow)), (g3, .inl (cI, 48, .inl (upd nx1 (a9 + j) x5))), (g4, .inl (cI, 17, .inl ki)), (g5, .inl (cI, 17, .inl na)), (g6, .inl (cI, 17, .inl ha))] := hD
        refine lv_iinc (v := x6 + 1) (lv' := [(6, .int (x6 + 1)), (0, .ref h0), (1, .int p0), (2, .int p1), (4, .int x4), (5, .int x5)]) hx hb dX4_enter_184 hl (k := 5) rfl (by rfl) (by decide) rfl (fun ls hl => ?_)
        refine lv_goto (tgt := 163) hx hb dX4_enter_187 (by decide) ?_
        exact ih (j + 1) a9 f9 x4 x5 (x6 + 1) (upd nx1 (a9 + j) x5) ra1 rl1 (z_sum_s ea ew haw hj ex6 c_2) (by omega) ea ew haw (z_sx ex6) ef hf (by rw [en, ef]; exact m_fill_s) hp3 H locs ls hP hD hS (lv_sub hl [1, 2, 3, 4, 5, 0] rfl)
  have L130 : ∀ (k : Nat) (f9 : Nat) (x4 : Int32) (x5 : Int32) (ra1 : Int32) (rl1 : Int32), (f9 ≤ 17) → (17 + 1 ≤ f9 + k) → (x5 = nI f9) → (m_ffF ki (17 - f9) f9 = m_ff ki) → (¬ x4 = 0) → (m_fitR ow x4 ra = (true, ra1, rl1)) → (x4 = m_want ow p1) → (m_enter qq wi ow nx ki na ha ra rl p0 p1 = m_ent2 qq wi ow nx ki na ha p0 ra rl x4) → ∀ (H : Heap) (locs : List Loc) (ls : Array Slot), va_P D vwCl [(h0, .inr (4, [.int 0, .int (zb qq.1), .int qq.2.1, .int qq.2.2.1, .ref g1, .ref g2, .ref g3, .ref g4, .ref g5, .ref g6, .int (zb qq.2.2.2), .int (zb wi), .int (zb mo), .int mv, .int fr, .int sh, .int gr, .int cp, .int ra1, .int rl1])), (g2, .inl (cI, 48, .inl ow)), (g3, .inl (cI, 48, .inl nx)), (g4, .inl (cI, 17, .inl ki)), (g5, .inl (cI, 17, .inl na)), (g6, .inl (cI, 17, .inl ha))] H → va_D A [(h0, .inr (4, [.int 0, .int (zb qq.1), .int qq.2.1, .int qq.2.2.1, .ref g1, .ref g2, .ref g3, .ref g4, .ref g5, .ref g6, .int (zb qq.2.2.2), .int (zb wi), .int (zb mo), .int mv, .int fr, .int sh, .int gr, .int cp, .int ra1, .int rl1])), (g2, .inl (cI, 48, .inl ow)), (g3, .inl (cI, 48, .inl nx)), (g4, .inl (cI, 17, .inl ki)), (g5, .inl (cI, 17, .inl na)), (g6, .inl (cI, 17, .inl ha))] → va_S A s.heap H locs → lv_has ls 7 [(0, .ref h0), (1, .int p0), (2, .int p1), (4, .int x4), (5, .int x5)] → W p l e ({ frames := 2, cells := 0, slots := 0, locals := 47 }) s m ([.ref h0, .int p0, .int p1] : List Value).toArray below meth c H locs 0 0 (MQ below (z_Wo D (some (.int ((m_enter qq wi ow nx ki na ha ra rl p0 p1).1))) [(h0, .inr (4, [.int ((m_enter qq wi ow nx ki na ha ra rl p0 p1).2.1), .int (zb ((m_enter qq wi ow nx ki na ha ra rl p0 p1).2.2.1).1), .int (((m_enter qq wi ow nx ki na ha ra rl p0 p1).2.2.1).2.1), .int (((m_enter qq wi ow nx ki na ha ra rl p0 p1).2.2.1).2.2.1), .ref g1, .ref g2, .ref g3, .ref g4, .ref g5, .ref g6, .int (zb ((m_enter qq wi ow nx ki na ha ra rl p0 p1).2.2.1).2.2.2), .int (zb wi), .int (zb mo), .int mv, .int fr, .int sh, .int gr, .int cp, .int ((m_enter qq wi ow nx ki na ha ra rl p0 p1).2.2.2.2.2.2.2.2.1), .int ((m_enter qq wi ow nx ki na ha ra rl p0 p1).2.2.2.2.2.2.2.2.2)])), (g2, .inl (cI, 48, .inl ((m_enter qq wi ow nx ki na ha ra rl p0 p1).2.2.2.1))), (g3, .inl (cI, 48, .inl ((m_enter qq wi ow nx ki na ha ra rl p0 p1).2.2.2.2.1))), (g4, .inl (cI, 17, .inl ((m_enter qq wi ow nx ki na ha ra rl p0 p1).2.2.2.2.2.1))), (g5, .inl (cI, 17, .inl ((m_enter qq wi ow nx ki na ha ra rl p0 p1).2.2.2.2.2.2.1))), (g6, .inl (cI, 17, .inl ((m_enter qq wi ow nx ki na ha ra rl p0 p1).2.2.2.2.2.2.2.1)))] A) ([.ref h0, .int p0, .int p1] : List Value).toArray s 0 0 A) (F0 m 130 ls []) := by
    intro k
    induction k with
    | zero =>
      intro f9 x4 x5 ra1 rl1 hf hk ex5 er hz eR ex4 hpr
      exfalso; omega
    | succ k ih =>
      intro f9 x4 x5 ra1 rl1 hf hk ex5 er hz eR ex4 hpr
      intro H locs ls hP hD hS hl
      refine lv_iload hx hb dX4_enter_130 (lv_at hl 4 rfl) ?_
      refine lv_bipush (v := 17) hx hb dX4_enter_132 (by decide) ?_
      refine lv_icmp_ge (tgt := 153) hx hb dX4_enter_134 (by decide) (fun c_8 => ?_) (fun c_8 => ?_)
      · skip
        exact absurd (hff x4 ex4 (by rw [eR])) (by rw [m_ff_e er (z17_e hf ex5 c_8)]; decide)
      · skip
        refine lv_aload_n hx hb dX4_enter_137 rfl (lv_at hl 0 rfl) ?_
        refine va_get (D := D) (ci := 4) (v := .ref g4) (C := RX4) (T := TX4) (N := 20) hx hb hts hin4 hown hK hP 0 rfl rfl 7 (by decide) hf27 (fun _ h9 => h9) rfl dX4_enter_138 ?_
        refine lv_iload hx hb dX4_enter_141 (lv_at hl 4 rfl) ?_
        refine va_iald hx hb hK hP 3 0 rfl rfl (z_ix ex5 (z17_s hf ex5 c_8) (by decide)) dX4_enter_143 ?_
        refine W.eq (g2 := F0 m 144 ls [.int (ki f9)]) (by rw [z_ic ex5 (z17_s hf ex5 c_8) (by decide)]) ?_
        refine lv_if_eq (tgt := 153) hx hb dX4_enter_144 (by decide) (fun c_9 => ?_) (fun c_9 => ?_)
        · skip
          have eff := m_ff_f er (z17_s hf ex5 c_8) c_9
          have hf9 := z17_s hf ex5 c_8
          obtain ⟨a8, n8, ea8, hal8, hn8, -⟩ := m_fit_ok eR
          have ew := hwn x4 ex4
          have ef := ex5
          refine lv_aload_n hx hb dX4_enter_153 rfl (lv_at hl 0 rfl) ?_
          have hPc : va_P D vwCl [(h0, .inr (4, [.int 0, .int (zb qq.1), .int qq.2.1, .int qq.2.2.1, .ref g1, .ref g2, .ref g3, .ref g4, .ref g5, .ref g6, .int (zb qq.2.2.2), .int (zb wi), .int (zb mo), .int mv, .int fr, .int sh, .int gr, .int cp, .int ra1, .int rl1])), (g2, .inl (cI, 48, .inl ow)), (g3, .inl (cI, 48, .inl nx))] H := hP.sub [0, 1, 2] rfl
          have hDc : va_D A [(h0, .inr (4, [.int 0, .int (zb qq.1), .int qq.2.1, .int qq.2.2.1, .ref g1, .ref g2, .ref g3, .ref g4, .ref g5, .ref g6, .int (zb qq.2.2.2), .int (zb wi), .int (zb mo), .int mv, .int fr, .int sh, .int gr, .int cp, .int ra1, .int rl1])), (g2, .inl (cI, 48, .inl ow)), (g3, .inl (cI, 48, .inl nx))] := hD.sub [0, 1, 2] (by decide) rfl
          refine z_callWv (ws' := [(h0, .inr (4, [.int 0, .int (zb qq.1), .int qq.2.1, .int qq.2.2.1, .ref g1, .ref g2, .ref g3, .ref g4, .ref g5, .ref g6, .int (zb qq.2.2.2), .int (zb wi), .int (zb mo), .int mv, .int fr, .int sh, .int gr, .int cp, .int ra1, .int rl1])), (g2, .inl (cI, 48, .inl ow)), (g3, .inl (cI, 48, .inl (m_cp nx ow))), (g4, .inl (cI, 17, .inl ki)), (g5, .inl (cI, 17, .inl na)), (g6, .inl (cI, 17, .inl ha))]) [0, 1, 2] [3, 4, 5] [(g4, .inl (cI, 17, .inl ki)), (g5, .inl (cI, 17, .inl na)), (g6, .inl (cI, 17, .inl ha))] [h0, g2, g3, g4, g5, g6] (va_runV (As := []) (rest := []) ⟨hx, hb, hml, hown, hts⟩ (c_X4_lay l D cI h0 g1 g2 g3 g4 g5 g6 0 qq wi mo mv fr sh gr cp ra1 rl1 ow nx H.size) (cwV 0 hts gX4_enter_X4_lay rfl rfl rfl qd_X4_lay ⟨Nat.le_of_ble_eq_true rfl, Nat.le_of_ble_eq_true rfl⟩) ⟨z_Pw_blind, va_recv hK hP (ci := 4) (q0 := 0) rfl rfl, fun U hU hW => ⟨rfl, by rw [hU], by rw [hU]; exact hPc, va_K.moved hW.alike hK, hDc.weaken (fun _ _ _ _ => trivial)⟩⟩ rfl rfl hl.1 rfl (lv_room (Nat.le_of_ble_eq_true rfl)) dX4_enter_154 ⟨Nat.le_of_ble_eq_true rfl, Nat.le_of_ble_eq_true rfl⟩) hP hD hS hA ⟨rfl, rfl, rfl, rfl, rfl, rfl, rfl⟩ (fun H locs hP hD hS => ?_)
          generalize hs_10 : m_cp nx ow = s_10 at hP hD ⊢
          refine lv_aload_n hx hb dX4_enter_157 rfl (lv_at hl 0 rfl) ?_
          refine va_get (D := D) (ci := 4) (v := .int ra1) (C := RX4) (T := TX4) (N := 20) hx hb hts hin4 hown hK hP 0 rfl rfl 18 (by decide) hf63 (fun _ h9 => h9) rfl dX4_enter_158 ?_
          refine lv_istore (lv' := [(6, .int ra1), (0, .ref h0), (1, .int p0), (2, .int p1), (4, .int x4), (5, .int x5)]) hx hb dX4_enter_161 hl (by decide) rfl (fun ls hl => ?_)
          exact L163 (x4.toNatClampNeg + 1) 0 a8 f9 x4 x5 ra1 s_10 ra1 rl1 (by subst hs_10; exact (Nat.zero_le _)) (by subst hs_10; exact (by omega)) (by subst hs_10; exact ea8) (by subst hs_10; exact ew) (by subst hs_10; exact (m_wn ew (z_cl_lt x4) (by omega) hal8 hn8)) (by subst hs_10; exact ea8) (by subst hs_10; exact ef) (by subst hs_10; exact hf9) (by subst hs_10; exact (m_fill_0 _ _ _).symm) (by subst hs_10; exact (hpr.trans (m_ent2_ok hz eR ea8 (by omega) eff))) H locs ls hP hD hS (lv_sub hl [1, 2, 3, 4, 5, 0] rfl)
        · skip
          refine lv_iinc (v := x5 + 1) (lv' := [(5, .int (x5 + 1)), (0, .ref h0), (1, .int p0), (2, .int p1), (4, .int x4)]) hx hb dX4_enter_147 hl (k := 4) rfl (by rfl) (by decide) rfl (fun ls hl => ?_)
          refine lv_goto (tgt := 130) hx hb dX4_enter_150 (by decide) ?_
          exact ih (f9 + 1) x4 (x5 + 1) ra1 rl1 (z17_s hf ex5 c_8) (by omega) (z_sx ex5) (m_ff_s er (z17_s hf ex5 c_8) c_9) hz eR ex4 hpr H locs ls hP hD hS (lv_sub hl [1, 2, 3, 4, 0] rfl)
  have L95 : ∀ (x4 : Int32), (x4 = m_want ow p1) → (m_enter qq wi ow nx ki na ha ra rl p0 p1 = m_ent2 qq wi ow nx ki na ha p0 ra rl x4) → (p1 ≤ 48) → (¬ p1 < 0) → ∀ (H : Heap) (locs : List Loc) (ls : Array Slot), va_P D vwCl [(h0, .inr (4, [.int 0, .int (zb qq.1), .int qq.2.1, .int qq.2.2.1, .ref g1, .ref g2, .ref g3, .ref g4, .ref g5, .ref g6, .int (zb qq.2.2.2), .int (zb wi), .int (zb mo), .int mv, .int fr, .int sh, .int gr, .int cp, .int ra, .int rl])), (g2, .inl (cI, 48, .inl ow)), (g3, .inl (cI, 48, .inl nx)), (g4, .inl (cI, 17, .inl ki)), (g5, .inl (cI, 17, .inl na)), (g6, .inl (cI, 17, .inl ha))] H → va_D A [(h0, .inr (4, [.int 0, .int (zb qq.1), .int qq.2.1, .int qq.2.2.1, .ref g1, .ref g2, .ref g3, .ref g4, .ref g5, .ref g6, .int (zb qq.2.2.2), .int (zb wi), .int (zb mo), .int mv, .int fr, .int sh, .int gr, .int cp, .int ra, .int rl])), (g2, .inl (cI, 48, .inl ow)), (g3, .inl (cI, 48, .inl nx)), (g4, .inl (cI, 17, .inl ki)), (g5, .inl (cI, 17, .inl na)), (g6, .inl (cI, 17, .inl ha))] → va_S A s.heap H locs → lv_has ls 7 [(0, .ref h0), (1, .int p0), (2, .int p1), (4, .int x4)] → W p l e ({ frames := 2, cells := 0, slots := 0, locals := 47 }) s m ([.ref h0, .int p0, .int p1] : List Value).toArray below meth c H locs 0 0 (MQ below (z_Wo D (some (.int ((m_enter qq wi ow nx ki na ha ra rl p0 p1).1))) [(h0, .inr (4, [.int ((m_enter qq wi ow nx ki na ha ra rl p0 p1).2.1), .int (zb ((m_enter qq wi ow nx ki na ha ra rl p0 p1).2.2.1).1), .int (((m_enter qq wi ow nx ki na ha ra rl p0 p1).2.2.1).2.1), .int (((m_enter qq wi ow nx ki na ha ra rl p0 p1).2.2.1).2.2.1), .ref g1, .ref g2, .ref g3, .ref g4, .ref g5, .ref g6, .int (zb ((m_enter qq wi ow nx ki na ha ra rl p0 p1).2.2.1).2.2.2), .int (zb wi), .int (zb mo), .int mv, .int fr, .int sh, .int gr, .int cp, .int ((m_enter qq wi ow nx ki na ha ra rl p0 p1).2.2.2.2.2.2.2.2.1), .int ((m_enter qq wi ow nx ki na ha ra rl p0 p1).2.2.2.2.2.2.2.2.2)])), (g2, .inl (cI, 48, .inl ((m_enter qq wi ow nx ki na ha ra rl p0 p1).2.2.2.1))), (g3, .inl (cI, 48, .inl ((m_enter qq wi ow nx ki na ha ra rl p0 p1).2.2.2.2.1))), (g4, .inl (cI, 17, .inl ((m_enter qq wi ow nx ki na ha ra rl p0 p1).2.2.2.2.2.1))), (g5, .inl (cI, 17, .inl ((m_enter qq wi ow nx ki na ha ra rl p0 p1).2.2.2.2.2.2.1))), (g6, .inl (cI, 17, .inl ((m_enter qq wi ow nx ki na ha ra rl p0 p1).2.2.2.2.2.2.2.1)))] A) ([.ref h0, .int p0, .int p1] : List Value).toArray s 0 0 A) (F0 m 95 ls []) := by
    intro x4 ex4 hpr h48 h00
    intro H locs ls hP hD hS hl
    refine lv_aload_n hx hb dX4_enter_95 rfl (lv_at hl 0 rfl) ?_
    refine lv_iload hx hb dX4_enter_96 (lv_at hl 3 rfl) ?_
    refine lv_if_eq (tgt := 110) hx hb dX4_enter_98 (by decide) (fun c_11 => ?_) (fun c_11 => ?_)
    · skip
      refine lv_iconst (v := 3) hx hb dX4_enter_110 (by decide) ?_
      refine lv_goto (tgt := 115) hx hb dX4_enter_111 (by decide) ?_
      refine va_put (D := D) (ci := 4) (v := .int 3) (ty := .int) (C := RX4) (T := TX4) (N := 20) hx hb hts hin4 tyX4 tyX4_ok nmX4 hown hK hP hD hS 0 rfl rfl 0 (by decide) hf36 (fun _ h9 => h9) rfl (by decide +kernel) rfl rfl (Nat.le_of_ble_eq_true rfl) dX4_enter_115 (fun H locs hP hD hS => ?_)
      have hP : va_P D vwCl [(h0, .inr (4, [.int 3, .int (zb qq.1), .int qq.2.1, .int qq.2.2.1, .ref g1, .ref g2, .ref g3, .ref g4, .ref g5, .ref g6, .int (zb qq.2.2.2), .int (zb wi), .int (zb mo), .int mv, .int fr, .int sh, .int gr, .int cp, .int ra, .int rl])), (g2, .inl (cI, 48, .inl ow)), (g3, .inl (cI, 48, .inl nx)), (g4, .inl (cI, 17, .inl ki)), (g5, .inl (cI, 17, .inl na)), (g6, .inl (cI, 17, .inl ha))] H := hP
      have hD : va_D A [(h0, .inr (4, [.int 3, .int (zb qq.1), .int qq.2.1, .int qq.2.2.1, .ref g1, .ref g2, .ref g3, .ref g4, .ref g5, .ref g6, .int (zb qq.2.2.2), .int (zb wi), .int (zb mo), .int mv, .int fr, .int sh, .int gr, .int cp, .int ra, .int rl])), (g2, .inl (cI, 48, .inl ow)), (g3, .inl (cI, 48, .inl nx)), (g4, .inl (cI, 17, .inl ki)), (g5, .inl (cI, 17, .inl na)), (g6, .inl (cI, 17, .inl ha))] := hD
      refine lv_aload_n hx hb dX4_enter_118 rfl (lv_at hl 0 rfl) ?_
      refine va_get (D := D) (ci := 4) (v := .int 3) (C := RX4) (T := TX4) (N := 20) hx hb hts hin4 hown hK hP 0 rfl rfl 0 (by decide) hf36 (fun _ h9 => h9) rfl dX4_enter_119 ?_
      refine lv_if_le (tgt := 127) hx hb dX4_enter_122 (by decide) (fun c_12 => ?_) (fun c_12 => ?_)
      · skip
        exact absurd c_12 (by decide)
      · skip
        refine lv_iconst (v := 0) hx hb dX4_enter_125 (by decide) ?_
        have hE : m_enter qq wi ow nx ki na ha ra rl p0 p1 = (0, 3, qq, ow, nx, ki, na, ha, ra, rl) := by rw [hpr]; simp only [m_ent2, if_pos c_11] <;> rfl
        have hPz : va_P D vwCl [(h0, .inr (4, [.int ((m_enter qq wi ow nx ki na ha ra rl p0 p1).2.1), .int (zb ((m_enter qq wi ow nx ki na ha ra rl p0 p1).2.2.1).1), .int (((m_enter qq wi ow nx ki na ha ra rl p0 p1).2.2.1).2.1), .int (((m_enter qq wi ow nx ki na ha ra rl p0 p1).2.2.1).2.2.1), .ref g1, .ref g2, .ref g3, .ref g4, .ref g5, .ref g6, .int (zb ((m_enter qq wi ow nx ki na ha ra rl p0 p1).2.2.1).2.2.2), .int (zb wi), .int (zb mo), .int mv, .int fr, .int sh, .int gr, .int cp, .int ((m_enter qq wi ow nx ki na ha ra rl p0 p1).2.2.2.2.2.2.2.2.1), .int ((m_enter qq wi ow nx ki na ha ra rl p0 p1).2.2.2.2.2.2.2.2.2)])), (g2, .inl (cI, 48, .inl ((m_enter qq wi ow nx ki na ha ra rl p0 p1).2.2.2.1))), (g3, .inl (cI, 48, .inl ((m_enter qq wi ow nx ki na ha ra rl p0 p1).2.2.2.2.1))), (g4, .inl (cI, 17, .inl ((m_enter qq wi ow nx ki na ha ra rl p0 p1).2.2.2.2.2.1))), (g5, .inl (cI, 17, .inl ((m_enter qq wi ow nx ki na ha ra rl p0 p1).2.2.2.2.2.2.1))), (g6, .inl (cI, 17, .inl ((m_enter qq wi ow nx ki na ha ra rl p0 p1).2.2.2.2.2.2.2.1)))] H := by rw [hE]; exact hP
        have hRr : 0 = (m_enter qq wi ow nx ki na ha ra rl p0 p1).1 := by first | (rw [hE]; done) | (rw [hE]; rfl)
        exact W.iret (v := 0) hx hb hr (fun t ht hW => ⟨⟨z_ret hRr, by rw [ht]; exact hPz⟩, hS.F ht⟩) hS.2.2 dX4_enter_126
    · skip
      refine lv_aload_n hx hb dX4_enter_101 rfl (lv_at hl 0 rfl) ?_
      refine lv_iload hx hb dX4_enter_102 (lv_at hl 3 rfl) ?_
      have hPc : va_P D vwCl [(h0, .inr (4, [.int 0, .int (zb qq.1), .int qq.2.1, .int qq.2.2.1, .ref g1, .ref g2, .ref g3, .ref g4, .ref g5, .ref g6, .int (zb qq.2.2.2), .int (zb wi), .int (zb mo), .int mv, .int fr, .int sh, .int gr, .int cp, .int ra, .int rl])), (g2, .inl (cI, 48, .inl ow))] H := hP.sub [0, 1] rfl
      have hDc : va_D A [(h0, .inr (4, [.int 0, .int (zb qq.1), .int qq.2.1, .int qq.2.2.1, .ref g1, .ref g2, .ref g3, .ref g4, .ref g5, .ref g6, .int (zb qq.2.2.2), .int (zb wi), .int (zb mo), .int mv, .int fr, .int sh, .int gr, .int cp, .int ra, .int rl])), (g2, .inl (cI, 48, .inl ow))] := hD.sub [0, 1] (by decide) rfl
      refine z_callWi (ws' := [(h0, .inr (4, [.int 0, .int (zb qq.1), .int qq.2.1, .int qq.2.2.1, .ref g1, .ref g2, .ref g3, .ref g4, .ref g5, .ref g6, .int (zb qq.2.2.2), .int (zb wi), .int (zb mo), .int mv, .int fr, .int sh, .int gr, .int cp, .int ((m_fitR ow x4 ra).2.1), .int ((m_fitR ow x4 ra).2.2)])), (g2, .inl (cI, 48, .inl ow)), (g3, .inl (cI, 48, .inl nx)), (g4, .inl (cI, 17, .inl ki)), (g5, .inl (cI, 17, .inl na)), (g6, .inl (cI, 17, .inl ha))]) [0, 1] [2, 3, 4, 5] [(g3, .inl (cI, 48, .inl nx)), (g4, .inl (cI, 17, .inl ki)), (g5, .inl (cI, 17, .inl na)), (g6, .inl (cI, 17, .inl ha))] [h0, g2, g3, g4, g5, g6] (va_runV (As := [.int x4]) (rest := [.ref h0]) ⟨hx, hb, hml, hown, hts⟩ (c_X4_fit l D cI h0 g1 g2 g3 g4 g5 g6 0 qq wi mo mv fr sh gr cp ra rl ow x4 H.size) (cwV 1 hts gX4_enter_X4_fit rfl rfl rfl qd_X4_fit ⟨Nat.le_of_ble_eq_true rfl, Nat.le_of_ble_eq_true rfl⟩) ⟨z_Pw_blind, va_recv hK hP (ci := 4) (q0 := 0) rfl rfl, fun U hU hW => ⟨rfl, by rw [hU], by rw [hU]; exact hPc, va_K.moved hW.alike hK, hDc.weaken (fun _ _ _ _ => trivial)⟩⟩ rfl rfl hl.1 rfl (lv_room (Nat.le_of_ble_eq_true rfl)) dX4_enter_104 ⟨Nat.le_of_ble_eq_true rfl, Nat.le_of_ble_eq_true rfl⟩) hP hD hS hA ⟨rfl, rfl, rfl, rfl, rfl, rfl, rfl⟩ (fun H locs hP hD hS => ?_)
      generalize hs_13 : m_fitR ow x4 ra = s_13 at hP hD ⊢
      refine lv_if_ne (tgt := 114) hx hb dX4_enter_107 (by decide) (fun c_14 => ?_) (fun c_14 => ?_)
      · skip
        refine lv_iconst (v := 0) hx hb dX4_enter_114 (by decide) ?_
        refine va_put (D := D) (ci := 4) (v := .int 0) (ty := .int) (C := RX4) (T := TX4) (N := 20) hx hb hts hin4 tyX4 tyX4_ok nmX4 hown hK hP hD hS 0 rfl rfl 0 (by decide) hf36 (fun _ h9 => h9) rfl (by decide +kernel) rfl rfl (Nat.le_of_ble_eq_true rfl) dX4_enter_115 (fun H locs hP hD hS => ?_)
        have hP : va_P D vwCl [(h0, .inr (4, [.int 0, .int (zb qq.1), .int qq.2.1, .int qq.2.2.1, .ref g1, .ref g2, .ref g3, .ref g4, .ref g5, .ref g6, .int (zb qq.2.2.2), .int (zb wi), .int (zb mo), .int mv, .int fr, .int sh, .int gr, .int cp, .int s_13.2.1, .int s_13.2.2])), (g2, .inl (cI, 48, .inl ow)), (g3, .inl (cI, 48, .inl nx)), (g4, .inl (cI, 17, .inl ki)), (g5, .inl (cI, 17, .inl na)), (g6, .inl (cI, 17, .inl ha))] H := hP
        have hD : va_D A [(h0, .inr (4, [.int 0, .int (zb qq.1), .int qq.2.1, .int qq.2.2.1, .ref g1, .ref g2, .ref g3, .ref g4, .ref g5, .ref g6, .int (zb qq.2.2.2), .int (zb wi), .int (zb mo), .int mv, .int fr, .int sh, .int gr, .int cp, .int s_13.2.1, .int s_13.2.2])), (g2, .inl (cI, 48, .inl ow)), (g3, .inl (cI, 48, .inl nx)), (g4, .inl (cI, 17, .inl ki)), (g5, .inl (cI, 17, .inl na)), (g6, .inl (cI, 17, .inl ha))] := hD
        refine lv_aload_n hx hb dX4_enter_118 rfl (lv_at hl 0 rfl) ?_
        refine va_get (D := D) (ci := 4) (v := .int 0) (C := RX4) (T := TX4) (N := 20) hx hb hts hin4 hown hK hP 0 rfl rfl 0 (by decide) hf36 (fun _ h9 => h9) rfl dX4_enter_119 ?_
        refine lv_if_le (tgt := 127) hx hb dX4_enter_122 (by decide) (fun c_15 => ?_) (fun c_15 => ?_)
        · skip
          refine lv_iconst (v := 1) hx hb dX4_enter_127 (by decide) ?_
          refine lv_istore (lv' := [(5, .int 1), (0, .ref h0), (1, .int p0), (2, .int p1), (4, .int x4)]) hx hb dX4_enter_128 hl (by decide) rfl (fun ls hl => ?_)
          exact L130 18 1 x4 1 s_13.2.1 s_13.2.2 (by subst hs_13; exact (by decide)) (by subst hs_13; exact (by decide)) (by subst hs_13; exact rfl) (by subst hs_13; exact rfl) (by subst hs_13; exact c_11) (by subst hs_13; exact (z_p3 (z_b1 c_14))) (by subst hs_13; exact ex4) (by subst hs_13; exact hpr) H locs ls hP hD hS (lv_sub hl [1, 2, 3, 4, 0] rfl)
        · skip
          exact absurd (by decide) c_15
      · skip
        refine lv_iconst (v := 3) hx hb dX4_enter_110 (by decide) ?_
        refine lv_goto (tgt := 115) hx hb dX4_enter_111 (by decide) ?_
        refine va_put (D := D) (ci := 4) (v := .int 3) (ty := .int) (C := RX4) (T := TX4) (N := 20) hx hb hts hin4 tyX4 tyX4_ok nmX4 hown hK hP hD hS 0 rfl rfl 0 (by decide) hf36 (fun _ h9 => h9) rfl (by decide +kernel) rfl rfl (Nat.le_of_ble_eq_true rfl) dX4_enter_115 (fun H locs hP hD hS => ?_)
        have hP : va_P D vwCl [(h0, .inr (4, [.int 3, .int (zb qq.1), .int qq.2.1, .int qq.2.2.1, .ref g1, .ref g2, .ref g3, .ref g4, .ref g5, .ref g6, .int (zb qq.2.2.2), .int (zb wi), .int (zb mo), .int mv, .int fr, .int sh, .int gr, .int cp, .int s_13.2.1, .int s_13.2.2])), (g2, .inl (cI, 48, .inl ow)), (g3, .inl (cI, 48, .inl nx)), (g4, .inl (cI, 17, .inl ki)), (g5, .inl (cI, 17, .inl na)), (g6, .inl (cI, 17, .inl ha))] H := hP
        have hD : va_D A [(h0, .inr (4, [.int 3, .int (zb qq.1), .int qq.2.1, .int qq.2.2.1, .ref g1, .ref g2, .ref g3, .ref g4, .ref g5, .ref g6, .int (zb qq.2.2.2), .int (zb wi), .int (zb mo), .int mv, .int fr, .int sh, .int gr, .int cp, .int s_13.2.1, .int s_13.2.2])), (g2, .inl (cI, 48, .inl ow)), (g3, .inl (cI, 48, .inl nx)), (g4, .inl (cI, 17, .inl ki)), (g5, .inl (cI, 17, .inl na)), (g6, .inl (cI, 17, .inl ha))] := hD
        refine lv_aload_n hx hb dX4_enter_118 rfl (lv_at hl 0 rfl) ?_
        refine va_get (D := D) (ci := 4) (v := .int 3) (C := RX4) (T := TX4) (N := 20) hx hb hts hin4 hown hK hP 0 rfl rfl 0 (by decide) hf36 (fun _ h9 => h9) rfl dX4_enter_119 ?_
        refine lv_if_le (tgt := 127) hx hb dX4_enter_122 (by decide) (fun c_16 => ?_) (fun c_16 => ?_)
        · skip
          exact absurd c_16 (by decide)
        · skip
          refine lv_iconst (v := 0) hx hb dX4_enter_125 (by decide) ?_
          have hE : m_enter qq wi ow nx ki na ha ra rl p0 p1 = (0, 3, qq, ow, nx, ki, na, ha, s_13.2.1, s_13.2.2) := by subst hs_13; rw [hpr]; simp only [m_ent2, if_neg c_11, if_pos (z_b0 c_14)] <;> rfl
          have hPz : va_P D vwCl [(h0, .inr (4, [.int ((m_enter qq wi ow nx ki na ha ra rl p0 p1).2.1), .int (zb ((m_enter qq wi ow nx ki na ha ra rl p0 p1).2.2.1).1), .int (((m_enter qq wi ow nx ki na ha ra rl p0 p1).2.2.1).2.1), .int (((m_enter qq wi ow nx ki na ha ra rl p0 p1).2.2.1).2.2.1), .ref g1, .ref g2, .ref g3, .ref g4, .ref g5, .ref g6, .int (zb ((m_enter qq wi ow nx ki na ha ra rl p0 p1).2.2.1).2.2.2), .int (zb wi), .int (zb mo), .int mv, .int fr, .int sh, .int gr, .int cp, .int ((m_enter qq wi ow nx ki na ha ra rl p0 p1).2.2.2.2.2.2.2.2.1), .int ((m_enter qq wi ow nx ki na ha ra rl p0 p1).2.2.2.2.2.2.2.2.2)])), (g2, .inl (cI, 48, .inl ((m_enter qq wi ow nx ki na ha ra rl p0 p1).2.2.2.1))), (g3, .inl (cI, 48, .inl ((m_enter qq wi ow nx ki na ha ra rl p0 p1).2.2.2.2.1))), (g4, .inl (cI, 17, .inl ((m_enter qq wi ow nx ki na ha ra rl p0 p1).2.2.2.2.2.1))), (g5, .inl (cI, 17, .inl ((m_enter qq wi ow nx ki na ha ra rl p0 p1).2.2.2.2.2.2.1))), (g6, .inl (cI, 17, .inl ((m_enter qq wi ow nx ki na ha ra rl p0 p1).2.2.2.2.2.2.2.1)))] H := by rw [hE]; exact hP
          have hRr : 0 = (m_enter qq wi ow nx ki na ha ra rl p0 p1).1 := by first | (rw [hE]; done) | (rw [hE]; rfl)
          exact W.iret (v := 0) hx hb hr (fun t ht hW => ⟨⟨z_ret hRr, by rw [ht]; exact hPz⟩, hS.F ht⟩) hS.2.2 dX4_enter_126
  refine lv_aload_n hx hb dX4_enter_0 rfl (lv_at hl 0 rfl) ?_
  refine lv_aload_n hx hb dX4_enter_1 rfl (lv_at hl 0 rfl) ?_
  refine va_get (D := D) (ci := 4) (v := .int (zb qq.1)) (C := RX4) (T := TX4) (N := 20) hx hb hts hin4 hown hK hP 0 rfl rfl 1 (by decide) hf7 (fun _ h9 => h9) rfl dX4_enter_2 ?_
  refine lv_if_ne (tgt := 12) hx hb dX4_enter_5 (by decide) (fun c_17 => ?_) (fun c_17 => ?_)
  · skip
    refine lv_iload_n hx hb dX4_enter_12 rfl (lv_at hl 1 rfl) ?_
    refine z_callRi (va_runS (As := [.int p0]) (rest := [.ref h0]) ⟨hx, hb, hml, hown, hts⟩ (c_X4_isName l D cI p0) (va_cwS 1 hts gX4_enter_X4_isName rfl rfl rfl qd_X4_isName ⟨Nat.le_of_ble_eq_true rfl, Nat.le_of_ble_eq_true rfl⟩) ⟨z_Pr_blind, fun U hU hW => ⟨rfl, by rw [hU]; exact hP.sub (ws' := []) [] rfl, va_K.moved hW.alike hK⟩⟩ rfl rfl hl.1 rfl (lv_room (Nat.le_of_ble_eq_true rfl)) dX4_enter_13 ⟨Nat.le_of_ble_eq_true rfl, Nat.le_of_ble_eq_true rfl⟩) ?_
    refine lv_if_eq (tgt := 29) hx hb dX4_enter_16 (by decide) (fun c_18 => ?_) (fun c_18 => ?_)
    · skip
      refine lv_iconst (v := 2) hx hb dX4_enter_29 (by decide) ?_
      refine lv_goto (tgt := 47) hx hb dX4_enter_30 (by decide) ?_
      refine va_put (D := D) (ci := 4) (v := .int 2) (ty := .int) (C := RX4) (T := TX4) (N := 20) hx hb hts hin4 tyX4 tyX4_ok nmX4 hown hK hP hD hS 0 rfl rfl 0 (by decide) hf36 (fun _ h9 => h9) rfl (by decide +kernel) rfl rfl (Nat.le_of_ble_eq_true rfl) dX4_enter_47 (fun H locs hP hD hS => ?_)
      have hP : va_P D vwCl [(h0, .inr (4, [.int 2, .int (zb qq.1), .int qq.2.1, .int qq.2.2.1, .ref g1, .ref g2, .ref g3, .ref g4, .ref g5, .ref g6, .int (zb qq.2.2.2), .int (zb wi), .int (zb mo), .int mv, .int fr, .int sh, .int gr, .int cp, .int ra, .int rl])), (g2, .inl (cI, 48, .inl ow)), (g3, .inl (cI, 48, .inl nx)), (g4, .inl (cI, 17, .inl ki)), (g5, .inl (cI, 17, .inl na)), (g6, .inl (cI, 17, .inl ha))] H := hP
      have hD : va_D A [(h0, .inr (4, [.int 2, .int (zb qq.1), .int qq.2.1, .int qq.2.2.1, .ref g1, .ref g2, .ref g3, .ref g4, .ref g5, .ref g6, .int (zb qq.2.2.2), .int (zb wi), .int (zb mo), .int mv, .int fr, .int sh, .int gr, .int cp, .int ra, .int rl])), (g2, .inl (cI, 48, .inl ow)), (g3, .inl (cI, 48, .inl nx)), (g4, .inl (cI, 17, .inl ki)), (g5, .inl (cI, 17, .inl na)), (g6, .inl (cI, 17, .inl ha))] := hD
      refine lv_aload_n hx hb dX4_enter_50 rfl (lv_at hl 0 rfl) ?_
      refine va_get (D := D) (ci := 4) (v := .int 2) (C := RX4) (T := TX4) (N := 20) hx hb hts hin4 hown hK hP 0 rfl rfl 0 (by decide) hf36 (fun _ h9 => h9) rfl dX4_enter_51 ?_
      refine lv_if_le (tgt := 59) hx hb dX4_enter_54 (by decide) (fun c_19 => ?_) (fun c_19 => ?_)
      · skip
        exact absurd c_19 (by decide)
      · skip
        refine lv_iconst (v := 0) hx hb dX4_enter_57 (by decide) ?_
        have hE : m_enter qq wi ow nx ki na ha ra rl p0 p1 = (0, 2, qq, ow, nx, ki, na, ha, ra, rl) := by simp only [m_enter, if_neg (z_b1f c_17), if_pos (z_b0 c_18)] <;> rfl
        have hPz : va_P D vwCl [(h0, .inr (4, [.int ((m_enter qq wi ow nx ki na ha ra rl p0 p1).2.1), .int (zb ((m_enter qq wi ow nx ki na ha ra rl p0 p1).2.2.1).1), .int (((m_enter qq wi ow nx ki na ha ra rl p0 p1).2.2.1).2.1), .int (((m_enter qq wi ow nx ki na ha ra rl p0 p1).2.2.1).2.2.1), .ref g1, .ref g2, .ref g3, .ref g4, .ref g5, .ref g6, .int (zb ((m_enter qq wi ow nx ki na ha ra rl p0 p1).2.2.1).2.2.2), .int (zb wi), .int (zb mo), .int mv, .int fr, .int sh, .int gr, .int cp, .int ((m_enter qq wi ow nx ki na ha ra rl p0 p1).2.2.2.2.2.2.2.2.1), .int ((m_enter qq wi ow nx ki na ha ra rl p0 p1).2.2.2.2.2.2.2.2.2)])), (g2, .inl (cI, 48, .inl ((m_enter qq wi ow nx ki na ha ra rl p0 p1).2.2.2.1))), (g3, .inl (cI, 48, .inl ((m_enter qq wi ow nx ki na ha ra rl p0 p1).2.2.2.2.1))), (g4, .inl (cI, 17, .inl ((m_enter qq wi ow nx ki na ha ra rl p0 p1).2.2.2.2.2.1))), (g5, .inl (cI, 17, .inl ((m_enter qq wi ow nx ki na ha ra rl p0 p1).2.2.2.2.2.2.1))), (g6, .inl (cI, 17, .inl ((m_enter qq wi ow nx ki na ha ra rl p0 p1).2.2.2.2.2.2.2.1)))] H := by rw [hE]; exact hP
        have hRr : 0 = (m_enter qq wi ow nx ki na ha ra rl p0 p1).1 := by first | (rw [hE]; done) | (rw [hE]; rfl)
        exact W.iret (v := 0) hx hb hr (fun t ht hW => ⟨⟨z_ret hRr, by rw [ht]; exact hPz⟩, hS.F ht⟩) hS.2.2 dX4_enter_58
    · skip
      refine lv_iload_n hx hb dX4_enter_19 rfl (lv_at hl 2 rfl) ?_
      refine lv_if_lt (tgt := 29) hx hb dX4_enter_20 (by decide) (fun c_20 => ?_) (fun c_20 => ?_)
      · skip
        refine lv_iconst (v := 2) hx hb dX4_enter_29 (by decide) ?_
        refine lv_goto (tgt := 47) hx hb dX4_enter_30 (by decide) ?_
        refine va_put (D := D) (ci := 4) (v := .int 2) (ty := .int) (C := RX4) (T := TX4) (N := 20) hx hb hts hin4 tyX4 tyX4_ok nmX4 hown hK hP hD hS 0 rfl rfl 0 (by decide) hf36 (fun _ h9 => h9) rfl (by decide +kernel) rfl rfl (Nat.le_of_ble_eq_true rfl) dX4_enter_47 (fun H locs hP hD hS => ?_)
        have hP : va_P D vwCl [(h0, .inr (4, [.int 2, .int (zb qq.1), .int qq.2.1, .int qq.2.2.1, .ref g1, .ref g2, .ref g3, .ref g4, .ref g5, .ref g6, .int (zb qq.2.2.2), .int (zb wi), .int (zb mo), .int mv, .int fr, .int sh, .int gr, .int cp, .int ra, .int rl])), (g2, .inl (cI, 48, .inl ow)), (g3, .inl (cI, 48, .inl nx)), (g4, .inl (cI, 17, .inl ki)), (g5, .inl (cI, 17, .inl na)), (g6, .inl (cI, 17, .inl ha))] H := hP
        have hD : va_D A [(h0, .inr (4, [.int 2, .int (zb qq.1), .int qq.2.1, .int qq.2.2.1, .ref g1, .ref g2, .ref g3, .ref g4, .ref g5, .ref g6, .int (zb qq.2.2.2), .int (zb wi), .int (zb mo), .int mv, .int fr, .int sh, .int gr, .int cp, .int ra, .int rl])), (g2, .inl (cI, 48, .inl ow)), (g3, .inl (cI, 48, .inl nx)), (g4, .inl (cI, 17, .inl ki)), (g5, .inl (cI, 17, .inl na)), (g6, .inl (cI, 17, .inl ha))] := hD
        refine lv_aload_n hx hb dX4_enter_50 rfl (lv_at hl 0 rfl) ?_
        refine va_get (D := D) (ci := 4) (v := .int 2) (C := RX4) (T := TX4) (N := 20) hx hb hts hin4 hown hK hP 0 rfl rfl 0 (by decide) hf36 (fun _ h9 => h9) rfl dX4_enter_51 ?_
        refine lv_if_le (tgt := 59) hx hb dX4_enter_54 (by decide) (fun c_21 => ?_) (fun c_21 => ?_)
        · skip
          exact absurd c_21 (by decide)
        · skip
          refine lv_iconst (v := 0) hx hb dX4_enter_57 (by decide) ?_
          have hE : m_enter qq wi ow nx ki na ha ra rl p0 p1 = (0, 2, qq, ow, nx, ki, na, ha, ra, rl) := by simp only [m_enter, if_neg (z_b1f c_17), if_neg (z_b1f c_18), if_pos c_20] <;> rfl
          have hPz : va_P D vwCl [(h0, .inr (4, [.int ((m_enter qq wi ow nx ki na ha ra rl p0 p1).2.1), .int (zb ((m_enter qq wi ow nx ki na ha ra rl p0 p1).2.2.1).1), .int (((m_enter qq wi ow nx ki na ha ra rl p0 p1).2.2.1).2.1), .int (((m_enter qq wi ow nx ki na ha ra rl p0 p1).2.2.1).2.2.1), .ref g1, .ref g2, .ref g3, .ref g4, .ref g5, .ref g6, .int (zb ((m_enter qq wi ow nx ki na ha ra rl p0 p1).2.2.1).2.2.2), .int (zb wi), .int (zb mo), .int mv, .int fr, .int sh, .int gr, .int cp, .int ((m_enter qq wi ow nx ki na ha ra rl p0 p1).2.2.2.2.2.2.2.2.1), .int ((m_enter qq wi ow nx ki na ha ra rl p0 p1).2.2.2.2.2.2.2.2.2)])), (g2, .inl (cI, 48, .inl ((m_enter qq wi ow nx ki na ha ra rl p0 p1).2.2.2.1))), (g3, .inl (cI, 48, .inl ((m_enter qq wi ow nx ki na ha ra rl p0 p1).2.2.2.2.1))), (g4, .inl (cI, 17, .inl ((m_enter qq wi ow nx ki na ha ra rl p0 p1).2.2.2.2.2.1))), (g5, .inl (cI, 17, .inl ((m_enter qq wi ow nx ki na ha ra rl p0 p1).2.2.2.2.2.2.1))), (g6, .inl (cI, 17, .inl ((m_enter qq wi ow nx ki na ha ra rl p0 p1).2.2.2.2.2.2.2.1)))] H := by rw [hE]; exact hP
          have hRr : 0 = (m_enter qq wi ow nx ki na ha ra rl p0 p1).1 := by first | (rw [hE]; done) | (rw [hE]; rfl)
          exact W.iret (v := 0) hx hb hr (fun t ht hW => ⟨⟨z_ret hRr, by rw [ht]; exact hPz⟩, hS.F ht⟩) hS.2.2 dX4_enter_58
      · skip
        refine lv_iload_n hx hb dX4_enter_23 rfl (lv_at hl 2 rfl) ?_
        refine lv_bipush (v := 48) hx hb dX4_enter_24 (by decide) ?_
        refine lv_icmp_le (tgt := 33) hx hb dX4_enter_26 (by decide) (fun c_22 => ?_) (fun c_22 => ?_)
        · skip
          refine lv_aload_n hx hb dX4_enter_33 rfl (lv_at hl 0 rfl) ?_
          refine lv_iconst (v := 1) hx hb dX4_enter_34 (by decide) ?_
          refine z_callRi (va_runV (As := [.int 1]) (rest := [.ref h0]) ⟨hx, hb, hml, hown, hts⟩ (c_X4_howMany l D cI h0 g1 g2 g3 g4 g5 g6 code qq wi mo mv fr sh gr cp ra rl ki 1) (cwV 1 hts gX4_enter_X4_howMany rfl rfl rfl qd_X4_howMany ⟨Nat.le_of_ble_eq_true rfl, Nat.le_of_ble_eq_true rfl⟩) ⟨z_Pr_blind, va_recv hK hP (ci := 4) (q0 := 0) rfl rfl, fun U hU hW => ⟨rfl, by rw [hU]; exact hP.sub (ws' := [(h0, .inr (4, [.int code, .int (zb qq.1), .int qq.2.1, .int qq.2.2.1, .ref g1, .ref g2, .ref g3, .ref g4, .ref g5, .ref g6, .int (zb qq.2.2.2), .int (zb wi), .int (zb mo), .int mv, .int fr, .int sh, .int gr, .int cp, .int ra, .int rl])), (g4, .inl (cI, 17, .inl ki))]) [0, 3] rfl, va_K.moved hW.alike hK⟩⟩ rfl rfl hl.1 rfl (lv_room (Nat.le_of_ble_eq_true rfl)) dX4_enter_35 ⟨Nat.le_of_ble_eq_true rfl, Nat.le_of_ble_eq_true rfl⟩) ?_
          refine lv_iconst (v := 4) hx hb dX4_enter_38 (by decide) ?_
          refine lv_icmp_ne (tgt := 46) hx hb dX4_enter_39 (by decide) (fun c_23 => ?_) (fun c_23 => ?_)
          · skip
            refine lv_iconst (v := 0) hx hb dX4_enter_46 (by decide) ?_
            refine va_put (D := D) (ci := 4) (v := .int 0) (ty := .int) (C := RX4) (T := TX4) (N := 20) hx hb hts hin4 tyX4 tyX4_ok nmX4 hown hK hP hD hS 0 rfl rfl 0 (by decide) hf36 (fun _ h9 => h9) rfl (by decide +kernel) rfl rfl (Nat.le_of_ble_eq_true rfl) dX4_enter_47 (fun H locs hP hD hS => ?_)
            have hP : va_P D vwCl [(h0, .inr (4, [.int 0, .int (zb qq.1), .int qq.2.1, .int qq.2.2.1, .ref g1, .ref g2, .ref g3, .ref g4, .ref g5, .ref g6, .int (zb qq.2.2.2), .int (zb wi), .int (zb mo), .int mv, .int fr, .int sh, .int gr, .int cp, .int ra, .int rl])), (g2, .inl (cI, 48, .inl ow)), (g3, .inl (cI, 48, .inl nx)), (g4, .inl (cI, 17, .inl ki)), (g5, .inl (cI, 17, .inl na)), (g6, .inl (cI, 17, .inl ha))] H := hP
            have hD : va_D A [(h0, .inr (4, [.int 0, .int (zb qq.1), .int qq.2.1, .int qq.2.2.1, .ref g1, .ref g2, .ref g3, .ref g4, .ref g5, .ref g6, .int (zb qq.2.2.2), .int (zb wi), .int (zb mo), .int mv, .int fr, .int sh, .int gr, .int cp, .int ra, .int rl])), (g2, .inl (cI, 48, .inl ow)), (g3, .inl (cI, 48, .inl nx)), (g4, .inl (cI, 17, .inl ki)), (g5, .inl (cI, 17, .inl na)), (g6, .inl (cI, 17, .inl ha))] := hD
            refine lv_aload_n hx hb dX4_enter_50 rfl (lv_at hl 0 rfl) ?_
            refine va_get (D := D) (ci := 4) (v := .int 0) (C := RX4) (T := TX4) (N := 20) hx hb hts hin4 hown hK hP 0 rfl rfl 0 (by decide) hf36 (fun _ h9 => h9) rfl dX4_enter_51 ?_
            refine lv_if_le (tgt := 59) hx hb dX4_enter_54 (by decide) (fun c_24 => ?_) (fun c_24 => ?_)
            · skip
              refine lv_aload_n hx hb dX4_enter_59 rfl (lv_at hl 0 rfl) ?_
              refine lv_iconst (v := 0) hx hb dX4_enter_60 (by decide) ?_
              refine z_callRi (va_runV (As := [.int 0]) (rest := []) ⟨hx, hb, hml, hown, hts⟩ (c_X4_longest l D cI h0 g1 g2 g3 g4 g5 g6 0 qq wi mo mv fr sh gr cp ra rl ow 0) (cwV 1 hts gX4_enter_X4_longest rfl rfl rfl qd_X4_longest ⟨Nat.le_of_ble_eq_true rfl, Nat.le_of_ble_eq_true rfl⟩) ⟨z_Pr_blind, va_recv hK hP (ci := 4) (q0 := 0) rfl rfl, fun U hU hW => ⟨rfl, by rw [hU]; exact hP.sub (ws' := [(h0, .inr (4, [.int 0, .int (zb qq.1), .int qq.2.1, .int qq.2.2.1, .ref g1, .ref g2, .ref g3, .ref g4, .ref g5, .ref g6, .int (zb qq.2.2.2), .int (zb wi), .int (zb mo), .int mv, .int fr, .int sh, .int gr, .int cp, .int ra, .int rl])), (g2, .inl (cI, 48, .inl ow))]) [0, 1] rfl, va_K.moved hW.alike hK⟩⟩ rfl rfl hl.1 rfl (lv_room (Nat.le_of_ble_eq_true rfl)) dX4_enter_61 ⟨Nat.le_of_ble_eq_true rfl, Nat.le_of_ble_eq_true rfl⟩) ?_
              refine lv_iconst (v := 2) hx hb dX4_enter_64 (by decide) ?_
              refine lv_idiv hx hb dX4_enter_65 (by decide) ?_
              refine lv_istore_n (lv' := [(3, .int ((m_lon ow 0) / 2)), (0, .ref h0), (1, .int p0), (2, .int p1)]) hx hb dX4_enter_66 rfl hl (by decide) rfl (fun ls hl => ?_)
              refine lv_iload_n hx hb dX4_enter_67 rfl (lv_at hl 3 rfl) ?_
              refine lv_if_le (tgt := 75) hx hb dX4_enter_68 (by decide) (fun c_25 => ?_) (fun c_25 => ?_)
              · skip
                refine lv_iload_n hx hb dX4_enter_75 rfl (lv_at hl 0 rfl) ?_
                refine lv_aload_n hx hb dX4_enter_76 rfl (lv_at hl 1 rfl) ?_
                refine lv_iconst (v := 1) hx hb dX4_enter_77 (by decide) ?_
                refine z_callRi (va_runV (As := [.int 1]) (rest := [.int ((m_lon ow 0) / 2)]) ⟨hx, hb, hml, hown, hts⟩ (c_X4_longest l D cI h0 g1 g2 g3 g4 g5 g6 0 qq wi mo mv fr sh gr cp ra rl ow 1) (cwV 1 hts gX4_enter_X4_longest rfl rfl rfl qd_X4_longest ⟨Nat.le_of_ble_eq_true rfl, Nat.le_of_ble_eq_true rfl⟩) ⟨z_Pr_blind, va_recv hK hP (ci := 4) (q0 := 0) rfl rfl, fun U hU hW => ⟨rfl, by rw [hU]; exact hP.sub (ws' := [(h0, .inr (4, [.int 0, .int (zb qq.1), .int qq.2.1, .int qq.2.2.1, .ref g1, .ref g2, .ref g3, .ref g4, .ref g5, .ref g6, .int (zb qq.2.2.2), .int (zb wi), .int (zb mo), .int mv, .int fr, .int sh, .int gr, .int cp, .int ra, .int rl])), (g2, .inl (cI, 48, .inl ow))]) [0, 1] rfl, va_K.moved hW.alike hK⟩⟩ rfl rfl hl.1 rfl (lv_room (Nat.le_of_ble_eq_true rfl)) dX4_enter_78 ⟨Nat.le_of_ble_eq_true rfl, Nat.le_of_ble_eq_true rfl⟩) ?_
                refine lv_icmp_le (tgt := 88) hx hb dX4_enter_81 (by decide) (fun c_26 => ?_) (fun c_26 => ?_)
                · skip
                  refine lv_aload_n hx hb dX4_enter_88 rfl (lv_at hl 1 rfl) ?_
                  refine lv_iconst (v := 1) hx hb dX4_enter_89 (by decide) ?_
                  refine z_callRi (va_runV (As := [.int 1]) (rest := []) ⟨hx, hb, hml, hown, hts⟩ (c_X4_longest l D cI h0 g1 g2 g3 g4 g5 g6 0 qq wi mo mv fr sh gr cp ra rl ow 1) (cwV 1 hts gX4_enter_X4_longest rfl rfl rfl qd_X4_longest ⟨Nat.le_of_ble_eq_true rfl, Nat.le_of_ble_eq_true rfl⟩) ⟨z_Pr_blind, va_recv hK hP (ci := 4) (q0 := 0) rfl rfl, fun U hU hW => ⟨rfl, by rw [hU]; exact hP.sub (ws' := [(h0, .inr (4, [.int 0, .int (zb qq.1), .int qq.2.1, .int qq.2.2.1, .ref g1, .ref g2, .ref g3, .ref g4, .ref g5, .ref g6, .int (zb qq.2.2.2), .int (zb wi), .int (zb mo), .int mv, .int fr, .int sh, .int gr, .int cp, .int ra, .int rl])), (g2, .inl (cI, 48, .inl ow))]) [0, 1] rfl, va_K.moved hW.alike hK⟩⟩ rfl rfl hl.1 rfl (lv_room (Nat.le_of_ble_eq_true rfl)) dX4_enter_90 ⟨Nat.le_of_ble_eq_true rfl, Nat.le_of_ble_eq_true rfl⟩) ?_
                  refine lv_istore (lv' := [(4, .int (m_lon ow 1)), (3, .int ((m_lon ow 0) / 2)), (0, .ref h0), (1, .int p0), (2, .int p1)]) hx hb dX4_enter_93 hl (by decide) rfl (fun ls hl => ?_)
                  exact L95 (m_lon ow 1) (by simp only [m_want, if_neg (z_b1f c_17), if_neg (z_b1f c_18), if_neg c_20, if_pos c_22, if_neg c_23, if_pos c_25, if_pos c_26]) (by simp only [m_enter, m_want, if_neg (z_b1f c_17), if_neg (z_b1f c_18), if_neg c_20, if_pos c_22, if_neg c_23, if_pos c_25, if_pos c_26]) (by first | exact c_22 | exact c_22) c_20 H locs ls hP hD hS (lv_sub hl [2, 3, 4, 0] rfl)
                · skip
                  refine lv_iload_n hx hb dX4_enter_84 rfl (lv_at hl 0 rfl) ?_
                  refine lv_goto (tgt := 93) hx hb dX4_enter_85 (by decide) ?_
                  refine lv_istore (lv' := [(4, .int ((m_lon ow 0) / 2)), (3, .int ((m_lon ow 0) / 2)), (0, .ref h0), (1, .int p0), (2, .int p1)]) hx hb dX4_enter_93 hl (by decide) rfl (fun ls hl => ?_)
                  exact L95 ((m_lon ow 0) / 2) (by simp only [m_want, if_neg (z_b1f c_17), if_neg (z_b1f c_18), if_neg c_20, if_pos c_22, if_neg c_23, if_pos c_25, if_neg c_26]) (by simp only [m_enter, m_want, if_neg (z_b1f c_17), if_neg (z_b1f c_18), if_neg c_20, if_pos c_22, if_neg c_23, if_pos c_25, if_neg c_26]) (by first | exact c_22 | exact c_22) c_20 H locs ls hP hD hS (lv_sub hl [2, 3, 4, 0] rfl)
              · skip
                refine lv_iload_n hx hb dX4_enter_71 rfl (lv_at hl 3 rfl) ?_
                refine lv_goto (tgt := 93) hx hb dX4_enter_72 (by decide) ?_
                refine lv_istore (lv' := [(4, .int p1), (3, .int ((m_lon ow 0) / 2)), (0, .ref h0), (1, .int p0), (2, .int p1)]) hx hb dX4_enter_93 hl (by decide) rfl (fun ls hl => ?_)
                exact L95 p1 (by simp only [m_want, if_neg (z_b1f c_17), if_neg (z_b1f c_18), if_neg c_20, if_pos c_22, if_neg c_23, if_neg c_25]) (by simp only [m_enter, m_want, if_neg (z_b1f c_17), if_neg (z_b1f c_18), if_neg c_20, if_pos c_22, if_neg c_23, if_neg c_25]) (by first | exact c_22 | exact c_22) c_20 H locs ls hP hD hS (lv_sub hl [2, 3, 4, 0] rfl)
            · skip
              exact absurd (by decide) c_24
          · skip
            refine lv_iconst (v := 1) hx hb dX4_enter_42 (by decide) ?_
            refine lv_goto (tgt := 47) hx hb dX4_enter_43 (by decide) ?_
            refine va_put (D := D) (ci := 4) (v := .int 1) (ty := .int) (C := RX4) (T := TX4) (N := 20) hx hb hts hin4 tyX4 tyX4_ok nmX4 hown hK hP hD hS 0 rfl rfl 0 (by decide) hf36 (fun _ h9 => h9) rfl (by decide +kernel) rfl rfl (Nat.le_of_ble_eq_true rfl) dX4_enter_47 (fun H locs hP hD hS => ?_)
            have hP : va_P D vwCl [(h0, .inr (4, [.int 1, .int (zb qq.1), .int qq.2.1, .int qq.2.2.1, .ref g1, .ref g2, .ref g3, .ref g4, .ref g5, .ref g6, .int (zb qq.2.2.2), .int (zb wi), .int (zb mo), .int mv, .int fr, .int sh, .int gr, .int cp, .int ra, .int rl])), (g2, .inl (cI, 48, .inl ow)), (g3, .inl (cI, 48, .inl nx)), (g4, .inl (cI, 17, .inl ki)), (g5, .inl (cI, 17, .inl na)), (g6, .inl (cI, 17, .inl ha))] H := hP
            have hD : va_D A [(h0, .inr (4, [.int 1, .int (zb qq.1), .int qq.2.1, .int qq.2.2.1, .ref g1, .ref g2, .ref g3, .ref g4, .ref g5, .ref g6, .int (zb qq.2.2.2), .int (zb wi), .int (zb mo), .int mv, .int fr, .int sh, .int gr, .int cp, .int ra, .int rl])), (g2, .inl (cI, 48, .inl ow)), (g3, .inl (cI, 48, .inl nx)), (g4, .inl (cI, 17, .inl ki)), (g5, .inl (cI, 17, .inl na)), (g6, .inl (cI, 17, .inl ha))] := hD
            refine lv_aload_n hx hb dX4_enter_50 rfl (lv_at hl 0 rfl) ?_
            refine va_get (D := D) (ci := 4) (v := .int 1) (C := RX4) (T := TX4) (N := 20) hx hb hts hin4 hown hK hP 0 rfl rfl 0 (by decide) hf36 (fun _ h9 => h9) rfl dX4_enter_51 ?_
            refine lv_if_le (tgt := 59) hx hb dX4_enter_54 (by decide) (fun c_27 => ?_) (fun c_27 => ?_)
            · skip
              exact absurd c_27 (by decide)
            · skip
              refine lv_iconst (v := 0) hx hb dX4_enter_57 (by decide) ?_
              have hE : m_enter qq wi ow nx ki na ha ra rl p0 p1 = (0, 1, qq, ow, nx, ki, na, ha, ra, rl) := by simp only [m_enter, if_neg (z_b1f c_17), if_neg (z_b1f c_18), if_neg c_20, if_pos c_22, if_pos c_23] <;> rfl
              have hPz : va_P D vwCl [(h0, .inr (4, [.int ((m_enter qq wi ow nx ki na ha ra rl p0 p1).2.1), .int (zb ((m_enter qq wi ow nx ki na ha ra rl p0 p1).2.2.1).1), .int (((m_enter qq wi ow nx ki na ha ra rl p0 p1).2.2.1).2.1), .int (((m_enter qq wi ow nx ki na ha ra rl p0 p1).2.2.1).2.2.1), .ref g1, .ref g2, .ref g3, .ref g4, .ref g5, .ref g6, .int (zb ((m_enter qq wi ow nx ki na ha ra rl p0 p1).2.2.1).2.2.2), .int (zb wi), .int (zb mo), .int mv, .int fr, .int sh, .int gr, .int cp, .int ((m_enter qq wi ow nx ki na ha ra rl p0 p1).2.2.2.2.2.2.2.2.1), .int ((m_enter qq wi ow nx ki na ha ra rl p0 p1).2.2.2.2.2.2.2.2.2)])), (g2, .inl (cI, 48, .inl ((m_enter qq wi ow nx ki na ha ra rl p0 p1).2.2.2.1))), (g3, .inl (cI, 48, .inl ((m_enter qq wi ow nx ki na ha ra rl p0 p1).2.2.2.2.1))), (g4, .inl (cI, 17, .inl ((m_enter qq wi ow nx ki na ha ra rl p0 p1).2.2.2.2.2.1))), (g5, .inl (cI, 17, .inl ((m_enter qq wi ow nx ki na ha ra rl p0 p1).2.2.2.2.2.2.1))), (g6, .inl (cI, 17, .inl ((m_enter qq wi ow nx ki na ha ra rl p0 p1).2.2.2.2.2.2.2.1)))] H := by rw [hE]; exact hP
              have hRr : 0 = (m_enter qq wi ow nx ki na ha ra rl p0 p1).1 := by first | (rw [hE]; done) | (rw [hE]; rfl)
              exact W.iret (v := 0) hx hb hr (fun t ht hW => ⟨⟨z_ret hRr, by rw [ht]; exact hPz⟩, hS.F ht⟩) hS.2.2 dX4_enter_58
        · skip
          refine lv_iconst (v := 2) hx hb dX4_enter_29 (by decide) ?_
          refine lv_goto (tgt := 47) hx hb dX4_enter_30 (by decide) ?_
          refine va_put (D := D) (ci := 4) (v := .int 2) (ty := .int) (C := RX4) (T := TX4) (N := 20) hx hb hts hin4 tyX4 tyX4_ok nmX4 hown hK hP hD hS 0 rfl rfl 0 (by decide) hf36 (fun _ h9 => h9) rfl (by decide +kernel) rfl rfl (Nat.le_of_ble_eq_true rfl) dX4_enter_47 (fun H locs hP hD hS => ?_)
          have hP : va_P D vwCl [(h0, .inr (4, [.int 2, .int (zb qq.1), .int qq.2.1, .int qq.2.2.1, .ref g1, .ref g2, .ref g3, .ref g4, .ref g5, .ref g6, .int (zb qq.2.2.2), .int (zb wi), .int (zb mo), .int mv, .int fr, .int sh, .int gr, .int cp, .int ra, .int rl])), (g2, .inl (cI, 48, .inl ow)), (g3, .inl (cI, 48, .inl nx)), (g4, .inl (cI, 17, .inl ki)), (g5, .inl (cI, 17, .inl na)), (g6, .inl (cI, 17, .inl ha))] H := hP
          have hD : va_D A [(h0, .inr (4, [.int 2, .int (zb qq.1), .int qq.2.1, .int qq.2.2.1, .ref g1, .ref g2, .ref g3, .ref g4, .ref g5, .ref g6, .int (zb qq.2.2.2), .int (zb wi), .int (zb mo), .int mv, .int fr, .int sh, .int gr, .int cp, .int ra, .int rl])), (g2, .inl (cI, 48, .inl ow)), (g3, .inl (cI, 48, .inl nx)), (g4, .inl (cI, 17, .inl ki)), (g5, .inl (cI, 17, .inl na)), (g6, .inl (cI, 17, .inl ha))] := hD
          refine lv_aload_n hx hb dX4_enter_50 rfl (lv_at hl 0 rfl) ?_
          refine va_get (D := D) (ci := 4) (v := .int 2) (C := RX4) (T := TX4) (N := 20) hx hb hts hin4 hown hK hP 0 rfl rfl 0 (by decide) hf36 (fun _ h9 => h9) rfl dX4_enter_51 ?_
          refine lv_if_le (tgt := 59) hx hb dX4_enter_54 (by decide) (fun c_28 => ?_) (fun c_28 => ?_)
          · skip
            exact absurd c_28 (by decide)
          · skip
            refine lv_iconst (v := 0) hx hb dX4_enter_57 (by decide) ?_
            have hE : m_enter qq wi ow nx ki na ha ra rl p0 p1 = (0, 2, qq, ow, nx, ki, na, ha, ra, rl) := by simp only [m_enter, if_neg (z_b1f c_17), if_neg (z_b1f c_18), if_neg c_20, if_neg c_22] <;> rfl
            have hPz : va_P D vwCl [(h0, .inr (4, [.int ((m_enter qq wi ow nx ki na ha ra rl p0 p1).2.1), .int (zb ((m_enter qq wi ow nx ki na ha ra rl p0 p1).2.2.1).1), .int (((m_enter qq wi ow nx ki na ha ra rl p0 p1).2.2.1).2.1), .int (((m_enter qq wi ow nx ki na ha ra rl p0 p1).2.2.1).2.2.1), .ref g1, .ref g2, .ref g3, .ref g4, .ref g5, .ref g6, .int (zb ((m_enter qq wi ow nx ki na ha ra rl p0 p1).2.2.1).2.2.2), .int (zb wi), .int (zb mo), .int mv, .int fr, .int sh, .int gr, .int cp, .int ((m_enter qq wi ow nx ki na ha ra rl p0 p1).2.2.2.2.2.2.2.2.1), .int ((m_enter qq wi ow nx ki na ha ra rl p0 p1).2.2.2.2.2.2.2.2.2)])), (g2, .inl (cI, 48, .inl ((m_enter qq wi ow nx ki na ha ra rl p0 p1).2.2.2.1))), (g3, .inl (cI, 48, .inl ((m_enter qq wi ow nx ki na ha ra rl p0 p1).2.2.2.2.1))), (g4, .inl (cI, 17, .inl ((m_enter qq wi ow nx ki na ha ra rl p0 p1).2.2.2.2.2.1))), (g5, .inl (cI, 17, .inl ((m_enter qq wi ow nx ki na ha ra rl p0 p1).2.2.2.2.2.2.1))), (g6, .inl (cI, 17, .inl ((m_enter qq wi ow nx ki na ha ra rl p0 p1).2.2.2.2.2.2.2.1)))] H := by rw [hE]; exact hP
            have hRr : 0 = (m_enter qq wi ow nx ki na ha ra rl p0 p1).1 := by first | (rw [hE]; done) | (rw [hE]; rfl)
            exact W.iret (v := 0) hx hb hr (fun t ht hW => ⟨⟨z_ret hRr, by rw [ht]; exact hPz⟩, hS.F ht⟩) hS.2.2 dX4_enter_58
  · skip
    refine lv_iconst (v := 1) hx hb dX4_enter_8 (by decide) ?_
    refine lv_goto (tgt := 47) hx hb dX4_enter_9 (by decide) ?_
    refine va_put (D := D) (ci := 4) (v := .int 1) (ty := .int) (C := RX4) (T := TX4) (N := 20) hx hb hts hin4 tyX4 tyX4_ok nmX4 hown hK hP hD hS 0 rfl rfl 0 (by decide) hf36 (fun _ h9 => h9) rfl (by decide +kernel) rfl rfl (Nat.le_of_ble_eq_true rfl) dX4_enter_47 (fun H locs hP hD hS => ?_)
    have hP : va_P D vwCl [(h0, .inr (4, [.int 1, .int (zb qq.1), .int qq.2.1, .int qq.2.2.1, .ref g1, .ref g2, .ref g3, .ref g4, .ref g5, .ref g6, .int (zb qq.2.2.2), .int (zb wi), .int (zb mo), .int mv, .int fr, .int sh, .int gr, .int cp, .int ra, .int rl])), (g2, .inl (cI, 48, .inl ow)), (g3, .inl (cI, 48, .inl nx)), (g4, .inl (cI, 17, .inl ki)), (g5, .inl (cI, 17, .inl na)), (g6, .inl (cI, 17, .inl ha))] H := hP
    have hD : va_D A [(h0, .inr (4, [.int 1, .int (zb qq.1), .int qq.2.1, .int qq.2.2.1, .ref g1, .ref g2, .ref g3, .ref g4, .ref g5, .ref g6, .int (zb qq.2.2.2), .int (zb wi), .int (zb mo), .int mv, .int fr, .int sh, .int gr, .int cp, .int ra, .int rl])), (g2, .inl (cI, 48, .inl ow)), (g3, .inl (cI, 48, .inl nx)), (g4, .inl (cI, 17, .inl ki)), (g5, .inl (cI, 17, .inl na)), (g6, .inl (cI, 17, .inl ha))] := hD
    refine lv_aload_n hx hb dX4_enter_50 rfl (lv_at hl 0 rfl) ?_
    refine va_get (D := D) (ci := 4) (v := .int 1) (C := RX4) (T := TX4) (N := 20) hx hb hts hin4 hown hK hP 0 rfl rfl 0 (by decide) hf36 (fun _ h9 => h9) rfl dX4_enter_51 ?_
    refine lv_if_le (tgt := 59) hx hb dX4_enter_54 (by decide) (fun c_29 => ?_) (fun c_29 => ?_)
    · skip
      exact absurd c_29 (by decide)
    · skip
      refine lv_iconst (v := 0) hx hb dX4_enter_57 (by decide) ?_
      have hE : m_enter qq wi ow nx ki na ha ra rl p0 p1 = (0, 1, qq, ow, nx, ki, na, ha, ra, rl) := by simp only [m_enter, if_pos (z_b0 c_17)] <;> rfl
      have hPz : va_P D vwCl [(h0, .inr (4, [.int ((m_enter qq wi ow nx ki na ha ra rl p0 p1).2.1), .int (zb ((m_enter qq wi ow nx ki na ha ra rl p0 p1).2.2.1).1), .int (((m_enter qq wi ow nx ki na ha ra rl p0 p1).2.2.1).2.1), .int (((m_enter qq wi ow nx ki na ha ra rl p0 p1).2.2.1).2.2.1), .ref g1, .ref g2, .ref g3, .ref g4, .ref g5, .ref g6, .int (zb ((m_enter qq wi ow nx ki na ha ra rl p0 p1).2.2.1).2.2.2), .int (zb wi), .int (zb mo), .int mv, .int fr, .int sh, .int gr, .int cp, .int ((m_enter qq wi ow nx ki na ha ra rl p0 p1).2.2.2.2.2.2.2.2.1), .int ((m_enter qq wi ow nx ki na ha ra rl p0 p1).2.2.2.2.2.2.2.2.2)])), (g2, .inl (cI, 48, .inl ((m_enter qq wi ow nx ki na ha ra rl p0 p1).2.2.2.1))), (g3, .inl (cI, 48, .inl ((m_enter qq wi ow nx ki na ha ra rl p0 p1).2.2.2.2.1))), (g4, .inl (cI, 17, .inl ((m_enter qq wi ow nx ki na ha ra rl p0 p1).2.2.2.2.2.1))), (g5, .inl (cI, 17, .inl ((m_enter qq wi ow nx ki na ha ra rl p0 p1).2.2.2.2.2.2.1))), (g6, .inl (cI, 17, .inl ((m_enter qq wi ow nx ki na ha ra rl p0 p1).2.2.2.2.2.2.2.1)))] H := by rw [hE]; exact hP
      have hRr : 0 = (m_enter qq wi ow nx ki na ha ra rl p0 p1).1 := by first | (rw [hE]; done) | (rw [hE]; rfl)
      exact W.iret (v := 0) hx hb hr (fun t ht hW => ⟨⟨z_ret hRr, by rw [ht]; exact hPz⟩, hS.F ht⟩) hS.2.2 dX4_enter_58
