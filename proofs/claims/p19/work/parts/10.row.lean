theorem z_at_in {n : Nat} {f : zA} {i : Int32} (h1 : ¬ i < 0) (h2 : ¬ nI n ≤ i) : f i.toNatClampNeg = r_at n f i := by
  rw [r_at, if_pos ⟨Int32.not_lt.mp h1, Int32.not_le.mp h2⟩]
theorem z_at_lo {n : Nat} {f : zA} {i : Int32} (h1 : i < 0) : (0 : Int32) = r_at n f i := by
  rw [r_at, if_neg (fun h => absurd h1 (Int32.not_lt.mpr h.1))]
theorem z_at_hi {n : Nat} {f : zA} {i : Int32} (h1 : nI n ≤ i) : (0 : Int32) = r_at n f i := by
  rw [r_at, if_neg (fun h => absurd h1 (Int32.not_le.mpr h.2))]
theorem z_set_in {n : Nat} {f : zA} {i v : Int32} (h1 : ¬ i < 0) (h2 : ¬ nI n ≤ i) : upd f i.toNatClampNeg v = r_set n f i v := by
  rw [r_set, if_pos ⟨Int32.not_lt.mp h1, Int32.not_le.mp h2⟩]
theorem z_set_lo {n : Nat} {f : zA} {i v : Int32} (h1 : i < 0) : f = r_set n f i v := by
  rw [r_set, if_neg (fun h => absurd h1 (Int32.not_lt.mpr h.1))]
theorem z_set_hi {n : Nat} {f : zA} {i v : Int32} (h1 : nI n ≤ i) : f = r_set n f i v := by
  rw [r_set, if_neg (fun h => absurd h1 (Int32.not_le.mpr h.2))]
theorem qd_X2_at : yX2_at.cls = RX2 ∧ yX2_at.cls ≠ "java/lang/invoke/MethodHandle" ∧ yX2_at.cls ≠ "java/lang/invoke/VarHandle" ∧ (parseMethodDescriptor yX2_at.desc).map (fun d => d.parameters.length) = some 1 := by decide +kernel
set_option maxHeartbeats 400000 in
set_option maxRecDepth 100000 in
/-- Row.at -/
theorem c_X2_at (l : Launch) (D : va_G) (cI : ClassId) (h0 : Nat) (h1 : Nat) (n : Nat) (f : zA) (p0 : Int32) (hn : n < 2 ^ 31) : Met l yX2_at wsX2_at ({ frames := 0, cells := 0, slots := 0, locals := 0 }) (z_Pr D cI [.ref h0, .int p0] [(h0, .inr (2, [.ref h1])), (h1, .inl (cI, n, .inl f))]) (z_Ro (some (.int (r_at n f p0)))) 0 0 (fun _ => False) := by
  refine Met.ofW (cc := cX2_at) (maxL := 2) (ret := (some .int)) (by decide) rfl ?_
  intro p e s m args below meth c s₁ B hml hv
  obtain ⟨rfl, hP, hK⟩ := hv
  have hx := B.exec
  have hb := B.bytes
  have hr := B.returns
  have hts := atoms_spec (ws := wsX2_at) B.pre
  have hown : s.vm.findClass RX2 = some m.cls := findClass_of_methodNamed B.named
  have hlocks := B.notSynchronized
  have hP : va_P D vwCl [(h0, .inr (2, [.ref h1])), (h1, .inl (cI, n, .inl f))] s.heap := hP
  have hl := lv_entry ([.ref h0, .int p0]) (n := 2) (Nat.le_of_ble_eq_true rfl)
  rw [lg_entry_eq]
  generalize (lg_sl ([.ref h0, .int p0]) ++ List.replicate (2 - (lg_sl ([.ref h0, .int p0])).length) Slot.unset).toArray = ls at hl ⊢
  have hl : lv_has ls 2 [(0, .ref h0), (1, .int p0)] := hl
  have hin2 : ∀ w ∈ wsX20, w ∈ wsX2_at := by decide +kernel
  have hf13 := hts (.fieldLink RX2 13 "SqueezedVolume$Row" "cells" "[I") (by decide +kernel)
  refine lv_iload_n hx hb dX2_at_0 rfl (lv_at hl 1 rfl) ?_
  refine lv_if_lt (tgt := 22) hx hb dX2_at_1 (by decide) (fun c_1 => ?_) (fun c_1 => ?_)
  · skip
    refine lv_iconst (v := 0) hx hb dX2_at_22 (by decide) ?_
    exact W.iret (v := 0) hx hb hr (fun t ht hW => ⟨z_ret (z_at_lo c_1), ht⟩) (fun _ h => nomatch h) dX2_at_23
  · skip
    refine lv_iload_n hx hb dX2_at_4 rfl (lv_at hl 1 rfl) ?_
    refine lv_aload_n hx hb dX2_at_5 rfl (lv_at hl 0 rfl) ?_
    refine va_get (D := D) (ci := 2) (v := .ref h1) (C := RX2) (T := TX2) (N := 1) hx hb hts hin2 hown hK hP 0 rfl rfl 0 (by decide) hf13 (fun _ h9 => h9) rfl dX2_at_6 ?_
    refine va_alen (v := nI n) hx hb hK hP 1 0 rfl rfl rfl dX2_at_9 ?_
    refine lv_icmp_ge (tgt := 22) hx hb dX2_at_10 (by decide) (fun c_2 => ?_) (fun c_2 => ?_)
    · skip
      refine lv_iconst (v := 0) hx hb dX2_at_22 (by decide) ?_
      exact W.iret (v := 0) hx hb hr (fun t ht hW => ⟨z_ret (z_at_hi c_2), ht⟩) (fun _ h => nomatch h) dX2_at_23
    · skip
      refine lv_aload_n hx hb dX2_at_13 rfl (lv_at hl 0 rfl) ?_
      refine va_get (D := D) (ci := 2) (v := .ref h1) (C := RX2) (T := TX2) (N := 1) hx hb hts hin2 hown hK hP 0 rfl rfl 0 (by decide) hf13 (fun _ h9 => h9) rfl dX2_at_14 ?_
      refine lv_iload_n hx hb dX2_at_17 rfl (lv_at hl 1 rfl) ?_
      refine va_iald hx hb hK hP 1 0 rfl rfl (r_in hn (Int32.not_lt.mp c_1) c_2) dX2_at_18 ?_
      refine lv_goto (tgt := 23) hx hb dX2_at_19 (by decide) ?_
      exact W.iret (v := f p0.toNatClampNeg) hx hb hr (fun t ht hW => ⟨z_ret (z_at_in c_1 c_2), ht⟩) (fun _ h => nomatch h) dX2_at_23
theorem qd_X2_set : yX2_set.cls = RX2 ∧ yX2_set.cls ≠ "java/lang/invoke/MethodHandle" ∧ yX2_set.cls ≠ "java/lang/invoke/VarHandle" ∧ (parseMethodDescriptor yX2_set.desc).map (fun d => d.parameters.length) = some 2 := by decide +kernel
set_option maxHeartbeats 400000 in
set_option maxRecDepth 100000 in
/-- Row.set -/
theorem c_X2_set (l : Launch) (D : va_G) (cI : ClassId) (h0 : Nat) (h1 : Nat) (n : Nat) (f : zA) (p0 : Int32) (p1 : Int32) (sz : Nat) (hn : n < 2 ^ 31) : Met l yX2_set wsX2_set ({ frames := 0, cells := 0, slots := 0, locals := 0 }) (z_Pw D cI [.ref h0, .int p0, .int p1] [(h0, .inr (2, [.ref h1])), (h1, .inl (cI, n, .inl f))] sz) (z_Wo D none [(h0, .inr (2, [.ref h1])), (h1, .inl (cI, n, .inl (r_set n f p0 p1)))] (va_A [(h0, .inr (2, [.ref h1])), (h1, .inl (cI, n, .inl f))] sz)) 0 0 (va_A [(h0, .inr (2, [.ref h1])), (h1, .inl (cI, n, .inl f))] sz) := by
  refine Met.ofW (cc := cX2_set) (maxL := 3) (ret := none) (by decide) rfl ?_
  intro p e s m args below meth c s₁ B hml hv
  obtain ⟨rfl, hsz, hP, hK, hD0⟩ := hv
  have hx := B.exec
  have hb := B.bytes
  have hr := B.returns
  have hts := atoms_spec (ws := wsX2_set) B.pre
  have hown : s.vm.findClass RX2 = some m.cls := findClass_of_methodNamed B.named
  have hlocks := B.notSynchronized
  subst hsz
  have hD := hD0.self (sz := s.heap.size)
  generalize hAe : va_A [(h0, .inr (2, [.ref h1])), (h1, .inl (cI, n, .inl f))] s.heap.size = A at hD ⊢
  have hA : ∀ q : Nat, s.heap.size ≤ q → A q := fun q h => by rw [← hAe]; exact Or.inr h
  have hS : va_S A s.heap s.heap [] := va_S.rf
  have hP : va_P D vwCl [(h0, .inr (2, [.ref h1])), (h1, .inl (cI, n, .inl f))] s.heap := hP
  have hl := lv_entry ([.ref h0, .int p0, .int p1]) (n := 3) (Nat.le_of_ble_eq_true rfl)
  rw [lg_entry_eq]
  generalize (lg_sl ([.ref h0, .int p0, .int p1]) ++ List.replicate (3 - (lg_sl ([.ref h0, .int p0, .int p1])).length) Slot.unset).toArray = ls at hl ⊢
  have hl : lv_has ls 3 [(0, .ref h0), (1, .int p0), (2, .int p1)] := hl
  refine z_start hP hS (fun H locs hP hS => ?_)
  have hin2 : ∀ w ∈ wsX20, w ∈ wsX2_set := by decide +kernel
  have hf13 := hts (.fieldLink RX2 13 "SqueezedVolume$Row" "cells" "[I") (by decide +kernel)
  refine lv_iload_n hx hb dX2_set_0 rfl (lv_at hl 1 rfl) ?_
  refine lv_if_lt (tgt := 20) hx hb dX2_set_1 (by decide) (fun c_1 => ?_) (fun c_1 => ?_)
  · skip
    have e9_0 : f = r_set n f p0 p1 := z_set_lo c_1
    have hPz : va_P D vwCl [(h0, .inr (2, [.ref h1])), (h1, .inl (cI, n, .inl (r_set n f p0 p1)))] H := by rw [← e9_0]; exact hP
    exact W.vret hx hb hr (fun t ht hW => ⟨⟨rfl, by rw [ht]; exact hPz⟩, hS.F ht⟩) hS.2.2 dX2_set_20
  · skip
    refine lv_iload_n hx hb dX2_set_4 rfl (lv_at hl 1 rfl) ?_
    refine lv_aload_n hx hb dX2_set_5 rfl (lv_at hl 0 rfl) ?_
    refine va_get (D := D) (ci := 2) (v := .ref h1) (C := RX2) (T := TX2) (N := 1) hx hb hts hin2 hown hK hP 0 rfl rfl 0 (by decide) hf13 (fun _ h9 => h9) rfl dX2_set_6 ?_
    refine va_alen (v := nI n) hx hb hK hP 1 0 rfl rfl rfl dX2_set_9 ?_
    refine lv_icmp_ge (tgt := 20) hx hb dX2_set_10 (by decide) (fun c_2 => ?_) (fun c_2 => ?_)
    · skip
      have e9_0 : f = r_set n f p0 p1 := z_set_hi c_2
      have hPz : va_P D vwCl [(h0, .inr (2, [.ref h1])), (h1, .inl (cI, n, .inl (r_set n f p0 p1)))] H := by rw [← e9_0]; exact hP
      exact W.vret hx hb hr (fun t ht hW => ⟨⟨rfl, by rw [ht]; exact hPz⟩, hS.F ht⟩) hS.2.2 dX2_set_20
    · skip
      refine lv_aload_n hx hb dX2_set_13 rfl (lv_at hl 0 rfl) ?_
      refine va_get (D := D) (ci := 2) (v := .ref h1) (C := RX2) (T := TX2) (N := 1) hx hb hts hin2 hown hK hP 0 rfl rfl 0 (by decide) hf13 (fun _ h9 => h9) rfl dX2_set_14 ?_
      refine lv_iload_n hx hb dX2_set_17 rfl (lv_at hl 1 rfl) ?_
      refine lv_iload_n hx hb dX2_set_18 rfl (lv_at hl 2 rfl) ?_
      refine va_iast hx hb hK hP hD hS 1 0 rfl rfl (r_in hn (Int32.not_lt.mp c_1) c_2) dX2_set_19 (fun H locs hP hD hS => ?_)
      have hP : va_P D vwCl [(h0, .inr (2, [.ref h1])), (h1, .inl (cI, n, .inl (upd f p0.toNatClampNeg p1)))] H := hP
      have hD : va_D A [(h0, .inr (2, [.ref h1])), (h1, .inl (cI, n, .inl (upd f p0.toNatClampNeg p1)))] := hD
      have e9_0 : upd f p0.toNatClampNeg p1 = r_set n f p0 p1 := z_set_in c_1 c_2
      have hPz : va_P D vwCl [(h0, .inr (2, [.ref h1])), (h1, .inl (cI, n, .inl (r_set n f p0 p1)))] H := by rw [← e9_0]; exact hP
      exact W.vret hx hb hr (fun t ht hW => ⟨⟨rfl, by rw [ht]; exact hPz⟩, hS.F ht⟩) hS.2.2 dX2_set_20

def r_tk (m : Nat) (f g : zA) (j : Nat) : zA := fun t => if t < j then r_at m g (nI t) else f t
theorem r_tk_0 (m : Nat) (f g : zA) : r_tk m f g 0 = f := by funext t; simp [r_tk]
theorem r_tk_s {m : Nat} {f g : zA} {x : Int32} {j : Nat} (e : x = nI j) (hj : j < 2 ^ 31) : upd (r_tk m f g j) x.toNatClampNeg (r_at m g x) = r_tk m f g (j + 1) := by
  subst e
  rw [nI_clamp hj]
  funext t
  by_cases h1 : t = j
  · subst h1; simp [upd, r_tk]
  · by_cases h2 : t < j
    · simp [upd, r_tk, h1, h2, Nat.lt_succ_of_lt h2]
    · have h3 : ¬ t < j + 1 := by omega
      simp [upd, r_tk, h1, h2, h3]
theorem z_jlt {n j : Nat} {x : Int32} (hn : n < 2 ^ 31) (e : x = nI j) (c : ¬ nI n ≤ x) (hj : j ≤ n := by assumption) : j < n := by
  rcases Nat.lt_or_ge j n with h | h
  · exact h
  · exact absurd (by rw [e]; exact nI_le h (Nat.lt_of_le_of_lt hj hn)) c
theorem z_jge {n j : Nat} {x : Int32} (hn : n < 2 ^ 31) (hj : j ≤ n) (e : x = nI j) (c : nI n ≤ x) : j = n := by
  rcases Nat.lt_or_ge j n with h | h
  · exact absurd c (by rw [e]; exact nI_ge h hn)
  · omega
theorem qd_X2_takeOver : yX2_takeOver.cls = RX2 ∧ yX2_takeOver.cls ≠ "java/lang/invoke/MethodHandle" ∧ yX2_takeOver.cls ≠ "java/lang/invoke/VarHandle" ∧ (parseMethodDescriptor yX2_takeOver.desc).map (fun d => d.parameters.length) = some 1 := by decide +kernel
set_option maxHeartbeats 400000 in
set_option maxRecDepth 100000 in
/-- Row.takeOver -/
theorem c_X2_takeOver (l : Launch) (D : va_G) (cI : ClassId) (h0 : Nat) (h1 : Nat) (n : Nat) (f : zA) (g0 : Nat) (g1 : Nat) (n2 : Nat) (f2 : zA) (sz : Nat) (hn : n < 2 ^ 31) (hn2 : n2 < 2 ^ 31) : Met l yX2_takeOver wsX2_takeOver ({ frames := 1, cells := 0, slots := 0, locals := 21 }) (z_Pw D cI [.ref h0, .ref g0] [(h0, .inr (2, [.ref h1])), (h1, .inl (cI, n, .inl f)), (g0, .inr (2, [.ref g1])), (g1, .inl (cI, n2, .inl f2))] sz) (z_Wo D none [(h0, .inr (2, [.ref h1])), (h1, .inl (cI, n, .inl (r_take n n2 f f2))), (g0, .inr (2, [.ref g1])), (g1, .inl (cI, n2, .inl f2))] (va_A [(h0, .inr (2, [.ref h1])), (h1, .inl (cI, n, .inl f)), (g0, .inr (2, [.ref g1])), (g1, .inl (cI, n2, .inl f2))] sz)) 0 0 (va_A [(h0, .inr (2, [.ref h1])), (h1, .inl (cI, n, .inl f)), (g0, .inr (2, [.ref g1])), (g1, .inl (cI, n2, .inl f2))] sz) := by
  refine Met.ofW (cc := cX2_takeOver) (maxL := 3) (ret := none) (by decide) rfl ?_
  intro p e s m args below meth c s₁ B hml hv
  obtain ⟨rfl, hsz, hP, hK, hD0⟩ := hv
  have hx := B.exec
  have hb := B.bytes
  have hr := B.returns
  have hts := atoms_spec (ws := wsX2_takeOver) B.pre
  have hown : s.vm.findClass RX2 = some m.cls := findClass_of_methodNamed B.named
  have hlocks := B.notSynchronized
  subst hsz
  have hD := hD0.self (sz := s.heap.size)
  generalize hAe : va_A [(h0, .inr (2, [.ref h1])), (h1, .inl (cI, n, .inl f)), (g0, .inr (2, [.ref g1])), (g1, .inl (cI, n2, .inl f2))] s.heap.size = A at hD ⊢
  have hA : ∀ q : Nat, s.heap.size ≤ q → A q := fun q h => by rw [← hAe]; exact Or.inr h
  have hS : va_S A s.heap s.heap [] := va_S.rf
  have hP : va_P D vwCl [(h0, .inr (2, [.ref h1])), (h1, .inl (cI, n, .inl f)), (g0, .inr (2, [.ref g1])), (g1, .inl (cI, n2, .inl f2))] s.heap := hP
  have hl := lv_entry ([.ref h0, .ref g0]) (n := 3) (Nat.le_of_ble_eq_true rfl)
  rw [lg_entry_eq]
  generalize (lg_sl ([.ref h0, .ref g0]) ++ List.replicate (3 - (lg_sl ([.ref h0, .ref g0])).length) Slot.unset).toArray = ls at hl ⊢
  have hl : lv_has ls 3 [(0, .ref h0), (1, .ref g0)] := hl
  refine z_start hP hS (fun H locs hP hS => ?_)
  have hin2 : ∀ w ∈ wsX20, w ∈ wsX2_takeOver := by decide +kernel
  have hf13 := hts (.fieldLink RX2 13 "SqueezedVolume$Row" "cells" "[I") (by decide +kernel)
  have L2 : ∀ (k : Nat) (j : Nat) (x2 : Int32) (f1 : zA), (j ≤ n) → (n + 1 ≤ j + k) → (x2 = nI j) → (f1 = r_tk n2 f f2 j) → ∀ (H : Heap) (locs : List Loc) (ls : Array Slot), va_P D vwCl [(h0, .inr (2, [.ref h1])), (h1, .inl (cI, n, .inl f1)), (g0, .inr (2, [.ref g1])), (g1, .inl (cI, n2, .inl f2))] H → va_D A [(h0, .inr (2, [.ref h1])), (h1, .inl (cI, n, .inl f1)), (g0, .inr (2, [.ref g1])), (g1, .inl (cI, n2, .inl f2))] → va_S A s.heap H locs → lv_has ls 3 [(0, .ref h0), (1, .ref g0), (2, .int x2)] → W p l e ({ frames := 1, cells := 0, slots := 0, locals := 21 }) s m ([.ref h0, .ref g0] : List Value).toArray below meth c H locs 0 0 (MQ below (z_Wo D none [(h0, .inr (2, [.ref h1])), (h1, .inl (cI, n, .inl (r_take n n2 f f2))), (g0, .inr (2, [.ref g1])), (g1, .inl (cI, n2, .inl f2))] A) ([.ref h0, .ref g0] : List Value).toArray s 0 0 A) (F0 m 2 ls []) := by
    intro k
    induction k with
    | zero =>
      intro j x2 f1 hj hk ex2 ef1
      exfalso; omega
    | succ k ih =>
      intro j x2 f1 hj hk ex2 ef1
      intro H locs ls hP hD hS hl
      refine lv_iload_n hx hb dX2_takeOver_2 rfl (lv_at hl 2 rfl) ?_
      refine lv_aload_n hx hb dX2_takeOver_3 rfl (lv_at hl 0 rfl) ?_
      refine va_get (D := D) (ci := 2) (v := .ref h1) (C := RX2) (T := TX2) (N := 1) hx hb hts hin2 hown hK hP 0 rfl rfl 0 (by decide) hf13 (fun _ h9 => h9) rfl dX2_takeOver_4 ?_
      refine va_alen (v := nI n) hx hb hK hP 1 0 rfl rfl rfl dX2_takeOver_7 ?_
      refine lv_icmp_ge (tgt := 28) hx hb dX2_takeOver_8 (by decide) (fun c_1 => ?_) (fun c_1 => ?_)
      · skip
        have e9_0 : f1 = r_take n n2 f f2 := by rw [ef1, z_jge hn hj ex2 c_1]; rfl
        have hPz : va_P D vwCl [(h0, .inr (2, [.ref h1])), (h1, .inl (cI, n, .inl (r_take n n2 f f2))), (g0, .inr (2, [.ref g1])), (g1, .inl (cI, n2, .inl f2))] H := by rw [← e9_0]; exact hP
        exact W.vret hx hb hr (fun t ht hW => ⟨⟨rfl, by rw [ht]; exact hPz⟩, hS.F ht⟩) hS.2.2 dX2_takeOver_28
      · skip
        refine lv_aload_n hx hb dX2_takeOver_11 rfl (lv_at hl 0 rfl) ?_
        refine va_get (D := D) (ci := 2) (v := .ref h1) (C := RX2) (T := TX2) (N := 1) hx hb hts hin2 hown hK hP 0 rfl rfl 0 (by decide) hf13 (fun _ h9 => h9) rfl dX2_takeOver_12 ?_
        refine lv_iload_n hx hb dX2_takeOver_15 rfl (lv_at hl 2 rfl) ?_
        refine lv_aload_n hx hb dX2_takeOver_16 rfl (lv_at hl 1 rfl) ?_
        refine lv_iload_n hx hb dX2_takeOver_17 rfl (lv_at hl 2 rfl) ?_
        refine z_callRi (va_runV (As := [.int x2]) (rest := [.int x2, .ref h1]) ⟨hx, hb, hml, hown, hts⟩ (c_X2_at l D cI g0 g1 n2 f2 x2 hn2) (cwV 1 hts gX2_takeOver_X2_at rfl rfl rfl qd_X2_at ⟨Nat.le_of_ble_eq_true rfl, Nat.le_of_ble_eq_true rfl⟩) ⟨z_Pr_blind, va_recv hK hP (ci := 2) (q0 := 2) rfl rfl, fun U hU hW => ⟨rfl, by rw [hU]; exact hP.sub (ws' := [(g0, .inr (2, [.ref g1])), (g1, .inl (cI, n2, .inl f2))]) [2, 3] rfl, va_K.moved hW.alike hK⟩⟩ rfl rfl hl.1 rfl (lv_room (Nat.le_of_ble_eq_true rfl)) dX2_takeOver_18 ⟨Nat.le_of_ble_eq_true rfl, Nat.le_of_ble_eq_true rfl⟩) ?_
        refine va_iast hx hb hK hP hD hS 1 0 rfl rfl (by rw [ex2]; exact vp_in_nI (z_jlt hn ex2 c_1) hn) dX2_takeOver_21 (fun H locs hP hD hS => ?_)
        have hP : va_P D vwCl [(h0, .inr (2, [.ref h1])), (h1, .inl (cI, n, .inl (upd f1 x2.toNatClampNeg (r_at n2 f2 x2)))), (g0, .inr (2, [.ref g1])), (g1, .inl (cI, n2, .inl f2))] H := hP
        have hD : va_D A [(h0, .inr (2, [.ref h1])), (h1, .inl (cI, n, .inl (upd f1 x2.toNatClampNeg (r_at n2 f2 x2)))), (g0, .inr (2, [.ref g1])), (g1, .inl (cI, n2, .inl f2))] := hD
        refine lv_iinc (v := x2 + 1) (lv' := [(2, .int (x2 + 1)), (0, .ref h0), (1, .ref g0)]) hx hb dX2_takeOver_22 hl (k := 2) rfl (by rfl) (by decide) rfl (fun ls hl => ?_)
        refine lv_goto (tgt := 2) hx hb dX2_takeOver_25 (by decide) ?_
        exact ih (j + 1) (x2 + 1) (upd f1 x2.toNatClampNeg (r_at n2 f2 x2)) (z_jlt hn ex2 c_1) (by omega) (by rw [ex2, nI_succ]) (by rw [ef1]; exact r_tk_s ex2 (Nat.lt_of_le_of_lt hj hn)) H locs ls hP hD hS (lv_sub hl [1, 2, 0] rfl)
  refine lv_iconst (v := 0) hx hb dX2_takeOver_0 (by decide) ?_
  refine lv_istore_n (lv' := [(2, .int 0), (0, .ref h0), (1, .ref g0)]) hx hb dX2_takeOver_1 rfl hl (by decide) rfl (fun ls hl => ?_)
  exact L2 (n + 1) 0 0 f (Nat.zero_le _) (by omega) nI_0.symm (r_tk_0 _ _ _).symm H locs ls hP hD hS (lv_sub hl [1, 2, 0] rfl)
