def d_clear (d : zD) : zD := (d.1, d.2.1, d.2.2.1, d.2.2.2.1, 0)
def d_app (d : zD) (p0 p1 p2 p3 : Int32) : zD := if 17 ≤ d.2.2.2.2 then d else (r_set 17 d.1 d.2.2.2.2 p0, r_set 17 d.2.1 d.2.2.2.2 p1, r_set 17 d.2.2.1 d.2.2.2.2 p2, r_set 17 d.2.2.2.1 d.2.2.2.2 p3, d.2.2.2.2 + 1)
/-- an entry is added: kind, length, name, handle; an empty one behind an empty one becomes one with it -/
def d_add (d : zD) (p0 p1 p2 p3 : Int32) : zD :=
  if p0 = 0 then (if d.2.2.2.2 - 1 < 0 then d_app d p0 p1 p2 p3 else if r_at 17 d.1 (d.2.2.2.2 - 1) = 0 then
    (d.1, r_set 17 d.2.1 (d.2.2.2.2 - 1) (r_at 17 d.2.1 (d.2.2.2.2 - 1) + p1), d.2.2.1, d.2.2.2.1, d.2.2.2.2) else d_app d p0 p1 p2 p3) else d_app d p0 p1 p2 p3
def d_addE (d : zD) (p0 : Int32) : zD := if p0 ≤ 0 then d else d_add d 0 p0 0 (-1)
def d_addF (o : zD) : Nat → Int32 → zD → zD
  | 0, _, d => d
  | k + 1, i, d => d_addF o k (i + 1) (d_add d (r_at 17 o.1 i) (r_at 17 o.2.1 i) (r_at 17 o.2.2.1 i) (r_at 17 o.2.2.2.1 i))
/-- the entries of o from p0 on, up to and without p1 -/
def d_addR (d o : zD) (p0 p1 : Int32) : zD := d_addF o (p1.toInt - p0.toInt).toNat p0 d
def d_take (d o : zD) : zD := (r_take 17 17 d.1 o.1, r_take 17 17 d.2.1 o.2.1, r_take 17 17 d.2.2.1 o.2.2.1, r_take 17 17 d.2.2.2.1 o.2.2.2.1, o.2.2.2.2)
theorem z_succ {a b : Int32} (c : ¬ b ≤ a) : (a + 1).toInt = a.toInt + 1 := by
  rw [Int32.le_iff_toInt_le] at c
  have h1 := Int32.toInt_lt b
  have h2 := Int32.le_toInt a
  rw [Int32.toInt_add]
  have h3 : (1 : Int32).toInt = 1 := rfl
  rw [h3]
  apply Int.bmod_eq_of_le
  · omega
  · omega
theorem z_rng {a b : Int32} (c : ¬ b ≤ a) : (b.toInt - a.toInt).toNat = (b.toInt - (a + 1).toInt).toNat + 1 := by
  rw [z_succ c]
  rw [Int32.le_iff_toInt_le] at c
  omega
theorem z_rng0 {a b : Int32} (c : b ≤ a) : (b.toInt - a.toInt).toNat = 0 := by
  rw [Int32.le_iff_toInt_le] at c
  omega
theorem z_rngk {a b : Int32} {k : Nat} (c : ¬ b ≤ a) (h : (b.toInt - a.toInt).toNat < k + 1) : (b.toInt - (a + 1).toInt).toNat < k := by
  rw [z_rng c] at h; omega
theorem d_addF_s {o d R : zD} {a b : Int32} (e : d_addF o (b.toInt - a.toInt).toNat a d = R) (c : ¬ b ≤ a) :
    d_addF o (b.toInt - (a + 1).toInt).toNat (a + 1) (d_add d (r_at 17 o.1 a) (r_at 17 o.2.1 a) (r_at 17 o.2.2.1 a) (r_at 17 o.2.2.2.1 a)) = R := by
  rw [← e, z_rng c]; rfl
theorem d_addF_e {o d R : zD} {a b : Int32} (e : d_addF o (b.toInt - a.toInt).toNat a d = R) (c : b ≤ a) : d = R := by
  rw [← e, z_rng0 c]; rfl
theorem qd_X0_clear : yX0_clear.cls = RX0 ∧ yX0_clear.cls ≠ "java/lang/invoke/MethodHandle" ∧ yX0_clear.cls ≠ "java/lang/invoke/VarHandle" ∧ (parseMethodDescriptor yX0_clear.desc).map (fun d => d.parameters.length) = some 0 := by decide +kernel
set_option maxHeartbeats 400000 in
set_option maxRecDepth 100000 in
/-- Directory.clear -/
theorem c_X0_clear (l : Launch) (D : va_G) (cI : ClassId) (h0 : Nat) (a1 : Nat) (a2 : Nat) (a3 : Nat) (a4 : Nat) (b1 : Nat) (b2 : Nat) (b3 : Nat) (b4 : Nat) (d : zD) (sz : Nat) : Met l yX0_clear wsX0_clear ({ frames := 0, cells := 0, slots := 0, locals := 0 }) (z_Pw D cI [.ref h0] [(h0, .inr (0, [.ref a1, .ref a2, .ref a3, .ref a4, .int d.2.2.2.2])), (a1, .inr (2, [.ref b1])), (b1, .inl (cI, 17, .inl d.1)), (a2, .inr (2, [.ref b2])), (b2, .inl (cI, 17, .inl d.2.1)), (a3, .inr (2, [.ref b3])), (b3, .inl (cI, 17, .inl d.2.2.1)), (a4, .inr (2, [.ref b4])), (b4, .inl (cI, 17, .inl d.2.2.2.1))] sz) (z_Wo D none [(h0, .inr (0, [.ref a1, .ref a2, .ref a3, .ref a4, .int ((d_clear d).2.2.2.2)])), (a1, .inr (2, [.ref b1])), (b1, .inl (cI, 17, .inl ((d_clear d).1))), (a2, .inr (2, [.ref b2])), (b2, .inl (cI, 17, .inl ((d_clear d).2.1))), (a3, .inr (2, [.ref b3])), (b3, .inl (cI, 17, .inl ((d_clear d).2.2.1))), (a4, .inr (2, [.ref b4])), (b4, .inl (cI, 17, .inl ((d_clear d).2.2.2.1)))] (va_A [(h0, .inr (0, [.ref a1, .ref a2, .ref a3, .ref a4, .int d.2.2.2.2])), (a1, .inr (2, [.ref b1])), (b1, .inl (cI, 17, .inl d.1)), (a2, .inr (2, [.ref b2])), (b2, .inl (cI, 17, .inl d.2.1)), (a3, .inr (2, [.ref b3])), (b3, .inl (cI, 17, .inl d.2.2.1)), (a4, .inr (2, [.ref b4])), (b4, .inl (cI, 17, .inl d.2.2.2.1))] sz)) 0 0 (va_A [(h0, .inr (0, [.ref a1, .ref a2, .ref a3, .ref a4, .int d.2.2.2.2])), (a1, .inr (2, [.ref b1])), (b1, .inl (cI, 17, .inl d.1)), (a2, .inr (2, [.ref b2])), (b2, .inl (cI, 17, .inl d.2.1)), (a3, .inr (2, [.ref b3])), (b3, .inl (cI, 17, .inl d.2.2.1)), (a4, .inr (2, [.ref b4])), (b4, .inl (cI, 17, .inl d.2.2.2.1))] sz) := by
  refine Met.ofW (cc := cX0_clear) (maxL := 1) (ret := none) (by decide) rfl ?_
  intro p e s m args below meth c s₁ B hml hv
  obtain ⟨rfl, hsz, hP, hK, hD0⟩ := hv
  have hx := B.exec
  have hb := B.bytes
  have hr := B.returns
  have hts := atoms_spec (ws := wsX0_clear) B.pre
  have hown : s.vm.findClass RX0 = some m.cls := findClass_of_methodNamed B.named
  have hlocks := B.notSynchronized
  subst hsz
  have hD := hD0.self (sz := s.heap.size)
  generalize hAe : va_A [(h0, .inr (0, [.ref a1, .ref a2, .ref a3, .ref a4, .int d.2.2.2.2])), (a1, .inr (2, [.ref b1])), (b1, .inl (cI, 17, .inl d.1)), (a2, .inr (2, [.ref b2])), (b2, .inl (cI, 17, .inl d.2.1)), (a3, .inr (2, [.ref b3])), (b3, .inl (cI, 17, .inl d.2.2.1)), (a4, .inr (2, [.ref b4])), (b4, .inl (cI, 17, .inl d.2.2.2.1))] s.heap.size = A at hD ⊢
  have hA : ∀ q : Nat, s.heap.size ≤ q → A q := fun q h => by rw [← hAe]; exact Or.inr h
  have hS : va_S A s.heap s.heap [] := va_S.rf
  have hP : va_P D vwCl [(h0, .inr (0, [.ref a1, .ref a2, .ref a3, .ref a4, .int d.2.2.2.2])), (a1, .inr (2, [.ref b1])), (b1, .inl (cI, 17, .inl d.1)), (a2, .inr (2, [.ref b2])), (b2, .inl (cI, 17, .inl d.2.1)), (a3, .inr (2, [.ref b3])), (b3, .inl (cI, 17, .inl d.2.2.1)), (a4, .inr (2, [.ref b4])), (b4, .inl (cI, 17, .inl d.2.2.2.1))] s.heap := hP
  have hl := lv_entry ([.ref h0]) (n := 1) (Nat.le_of_ble_eq_true rfl)
  rw [lg_entry_eq]
  generalize (lg_sl ([.ref h0]) ++ List.replicate (1 - (lg_sl ([.ref h0])).length) Slot.unset).toArray = ls at hl ⊢
  have hl : lv_has ls 1 [(0, .ref h0)] := hl
  refine z_start hP hS (fun H locs hP hS => ?_)
  have hin0 : ∀ w ∈ wsX00, w ∈ wsX0_clear := by decide +kernel
  have hf29 := hts (.fieldLink RX0 29 "SqueezedVolume$Directory" "count" "I") (by decide +kernel)
  refine lv_aload_n hx hb dX0_clear_0 rfl (lv_at hl 0 rfl) ?_
  refine lv_iconst (v := 0) hx hb dX0_clear_1 (by decide) ?_
  refine va_put (D := D) (ci := 0) (v := .int 0) (ty := .int) (C := RX0) (T := TX0) (N := 5) hx hb hts hin0 tyX0 tyX0_ok nmX0 hown hK hP hD hS 0 rfl rfl 4 (by decide) hf29 (fun _ h9 => h9) rfl (by decide +kernel) rfl rfl (Nat.le_of_ble_eq_true rfl) dX0_clear_2 (fun H locs hP hD hS => ?_)
  have hP : va_P D vwCl [(h0, .inr (0, [.ref a1, .ref a2, .ref a3, .ref a4, .int 0])), (a1, .inr (2, [.ref b1])), (b1, .inl (cI, 17, .inl d.1)), (a2, .inr (2, [.ref b2])), (b2, .inl (cI, 17, .inl d.2.1)), (a3, .inr (2, [.ref b3])), (b3, .inl (cI, 17, .inl d.2.2.1)), (a4, .inr (2, [.ref b4])), (b4, .inl (cI, 17, .inl d.2.2.2.1))] H := hP
  have hD : va_D A [(h0, .inr (0, [.ref a1, .ref a2, .ref a3, .ref a4, .int 0])), (a1, .inr (2, [.ref b1])), (b1, .inl (cI, 17, .inl d.1)), (a2, .inr (2, [.ref b2])), (b2, .inl (cI, 17, .inl d.2.1)), (a3, .inr (2, [.ref b3])), (b3, .inl (cI, 17, .inl d.2.2.1)), (a4, .inr (2, [.ref b4])), (b4, .inl (cI, 17, .inl d.2.2.2.1))] := hD
  have e9_0 : 0 = (d_clear d).2.2.2.2 := rfl
  have e9_1 : d.1 = (d_clear d).1 := rfl
  have e9_2 : d.2.1 = (d_clear d).2.1 := rfl
  have e9_3 : d.2.2.1 = (d_clear d).2.2.1 := rfl
  have e9_4 : d.2.2.2.1 = (d_clear d).2.2.2.1 := rfl
  have hPz : va_P D vwCl [(h0, .inr (0, [.ref a1, .ref a2, .ref a3, .ref a4, .int ((d_clear d).2.2.2.2)])), (a1, .inr (2, [.ref b1])), (b1, .inl (cI, 17, .inl ((d_clear d).1))), (a2, .inr (2, [.ref b2])), (b2, .inl (cI, 17, .inl ((d_clear d).2.1))), (a3, .inr (2, [.ref b3])), (b3, .inl (cI, 17, .inl ((d_clear d).2.2.1))), (a4, .inr (2, [.ref b4])), (b4, .inl (cI, 17, .inl ((d_clear d).2.2.2.1)))] H := by rw [← e9_0, ← e9_1, ← e9_2, ← e9_3, ← e9_4]; exact hP
  exact W.vret hx hb hr (fun t ht hW => ⟨⟨rfl, by rw [ht]; exact hPz⟩, hS.F ht⟩) hS.2.2 dX0_clear_5
theorem qd_X0_add : yX0_add.cls = RX0 ∧ yX0_add.cls ≠ "java/lang/invoke/MethodHandle" ∧ yX0_add.cls ≠ "java/lang/invoke/VarHandle" ∧ (parseMethodDescriptor yX0_add.desc).map (fun d => d.parameters.length) = some 4 := by decide +kernel
set_option maxHeartbeats 400000 in
set_option maxRecDepth 100000 in
/-- Directory.add -/
theorem c_X0_add (l : Launch) (D : va_G) (cI : ClassId) (h0 : Nat) (a1 : Nat) (a2 : Nat) (a3 : Nat) (a4 : Nat) (b1 : Nat) (b2 : Nat) (b3 : Nat) (b4 : Nat) (d : zD) (p0 : Int32) (p1 : Int32) (p2 : Int32) (p3 : Int32) (sz : Nat) : Met l yX0_add wsX0_add ({ frames := 1, cells := 0, slots := 0, locals := 22 }) (z_Pw D cI [.ref h0, .int p0, .int p1, .int p2, .int p3] [(h0, .inr (0, [.ref a1, .ref a2, .ref a3, .ref a4, .int d.2.2.2.2])), (a1, .inr (2, [.ref b1])), (b1, .inl (cI, 17, .inl d.1)), (a2, .inr (2, [.ref b2])), (b2, .inl (cI, 17, .inl d.2.1)), (a3, .inr (2, [.ref b3])), (b3, .inl (cI, 17, .inl d.2.2.1)), (a4, .inr (2, [.ref b4])), (b4, .inl (cI, 17, .inl d.2.2.2.1))] sz) (z_Wo D none [(h0, .inr (0, [.ref a1, .ref a2, .ref a3, .ref a4, .int ((d_add d p0 p1 p2 p3).2.2.2.2)])), (a1, .inr (2, [.ref b1])), (b1, .inl (cI, 17, .inl ((d_add d p0 p1 p2 p3).1))), (a2, .inr (2, [.ref b2])), (b2, .inl (cI, 17, .inl ((d_add d p0 p1 p2 p3).2.1))), (a3, .inr (2, [.ref b3])), (b3, .inl (cI, 17, .inl ((d_add d p0 p1 p2 p3).2.2.1))), (a4, .inr (2, [.ref b4])), (b4, .inl (cI, 17, .inl ((d_add d p0 p1 p2 p3).2.2.2.1)))] (va_A [(h0, .inr (0, [.ref a1, .ref a2, .ref a3, .ref a4, .int d.2.2.2.2])), (a1, .inr (2, [.ref b1])), (b1, .inl (cI, 17, .inl d.1)), (a2, .inr (2, [.ref b2])), (b2, .inl (cI, 17, .inl d.2.1)), (a3, .inr (2, [.ref b3])), (b3, .inl (cI, 17, .inl d.2.2.1)), (a4, .inr (2, [.ref b4])), (b4, .inl (cI, 17, .inl d.2.2.2.1))] sz)) 0 0 (va_A [(h0, .inr (0, [.ref a1, .ref a2, .ref a3, .ref a4, .int d.2.2.2.2])), (a1, .inr (2, [.ref b1])), (b1, .inl (cI, 17, .inl d.1)), (a2, .inr (2, [.ref b2])), (b2, .inl (cI, 17, .inl d.2.1)), (a3, .inr (2, [.ref b3])), (b3, .inl (cI, 17, .inl d.2.2.1)), (a4, .inr (2, [.ref b4])), (b4, .inl (cI, 17, .inl d.2.2.2.1))] sz) := by
  refine Met.ofW (cc := cX0_add) (maxL := 6) (ret := none) (by decide) rfl ?_
  intro p e s m args below meth c s₁ B hml hv
  obtain ⟨rfl, hsz, hP, hK, hD0⟩ := hv
  have hx := B.exec
  have hb := B.bytes
  have hr := B.returns
  have hts := atoms_spec (ws := wsX0_add) B.pre
  have hown : s.vm.findClass RX0 = some m.cls := findClass_of_methodNamed B.named
  have hlocks := B.notSynchronized
  subst hsz
  have hD := hD0.self (sz := s.heap.size)
  generalize hAe : va_A [(h0, .inr (0, [.ref a1, .ref a2, .ref a3, .ref a4, .int d.2.2.2.2])), (a1, .inr (2, [.ref b1])), (b1, .inl (cI, 17, .inl d.1)), (a2, .inr (2, [.ref b2])), (b2, .inl (cI, 17, .inl d.2.1)), (a3, .inr (2, [.ref b3])), (b3, .inl (cI, 17, .inl d.2.2.1)), (a4, .inr (2, [.ref b4])), (b4, .inl (cI, 17, .inl d.2.2.2.1))] s.heap.size = A at hD ⊢
  have hA : ∀ q : Nat, s.heap.size ≤ q → A q := fun q h => by rw [← hAe]; exact Or.inr h
  have hS : va_S A s.heap s.heap [] := va_S.rf
  have hP : va_P D vwCl [(h0, .inr (0, [.ref a1, .ref a2, .ref a3, .ref a4, .int d.2.2.2.2])), (a1, .inr (2, [.ref b1])), (b1, .inl (cI, 17, .inl d.1)), (a2, .inr (2, [.ref b2])), (b2, .inl (cI, 17, .inl d.2.1)), (a3, .inr (2, [.ref b3])), (b3, .inl (cI, 17, .inl d.2.2.1)), (a4, .inr (2, [.ref b4])), (b4, .inl (cI, 17, .inl d.2.2.2.1))] s.heap := hP
  have hl := lv_entry ([.ref h0, .int p0, .int p1, .int p2, .int p3]) (n := 6) (Nat.le_of_ble_eq_true rfl)
  rw [lg_entry_eq]
  generalize (lg_sl ([.ref h0, .int p0, .int p1, .int p2, .int p3]) ++ List.replicate (6 - (lg_sl ([.ref h0, .int p0, .int p1, .int p2, .int p3])).length) Slot.unset).toArray = ls at hl ⊢
  have hl : lv_has ls 6 [(0, .ref h0), (1, .int p0), (2, .int p1), (3, .int p2), (4, .int p3)] := hl
  refine z_start hP hS (fun H locs hP hS => ?_)
  have hin0 : ∀ w ∈ wsX00, w ∈ wsX0_add := by decide +kernel
  have hf29 := hts (.fieldLink RX0 29 "SqueezedVolume$Directory" "count" "I") (by decide +kernel)
  have hf16 := hts (.fieldLink RX0 16 "SqueezedVolume$Directory" "kinds" "LSqueezedVolume$Row;") (by decide +kernel)
  have hf20 := hts (.fieldLink RX0 20 "SqueezedVolume$Directory" "lengths" "LSqueezedVolume$Row;") (by decide +kernel)
  have hf23 := hts (.fieldLink RX0 23 "SqueezedVolume$Directory" "names" "LSqueezedVolume$Row;") (by decide +kernel)
  have hf26 := hts (.fieldLink RX0 26 "SqueezedVolume$Directory" "handles" "LSqueezedVolume$Row;") (by decide +kernel)
  refine lv_aload_n hx hb dX0_add_0 rfl (lv_at hl 0 rfl) ?_
  refine va_get (D := D) (ci := 0) (v := .int d.2.2.2.2) (C := RX0) (T := TX0) (N := 5) hx hb hts hin0 hown hK hP 0 rfl rfl 4 (by decide) hf29 (fun _ h9 => h9) rfl dX0_add_1 ?_
  refine lv_iconst (v := 1) hx hb dX0_add_4 (by decide) ?_
  refine lv_isub hx hb dX0_add_5 ?_
  refine lv_istore (lv' := [(5, .int (d.2.2.2.2 - 1)), (0, .ref h0), (1, .int p0), (2, .int p1), (3, .int p2), (4, .int p3)]) hx hb dX0_add_6 hl (by decide) rfl (fun ls hl => ?_)
  refine lv_iload_n hx hb dX0_add_8 rfl (lv_at hl 2 rfl) ?_
  refine lv_if_ne (tgt := 52) hx hb dX0_add_9 (by decide) (fun c_1 => ?_) (fun c_1 => ?_)
  · skip
    refine lv_aload_n hx hb dX0_add_52 rfl (lv_at hl 1 rfl) ?_
    refine va_get (D := D) (ci := 0) (v := .int d.2.2.2.2) (C := RX0) (T := TX0) (N := 5) hx hb hts hin0 hown hK hP 0 rfl rfl 4 (by decide) hf29 (fun _ h9 => h9) rfl dX0_add_53 ?_
    refine lv_bipush (v := 17) hx hb dX0_add_56 (by decide) ?_
    refine lv_icmp_ge (tgt := 120) hx hb dX0_add_58 (by decide) (fun c_2 => ?_) (fun c_2 => ?_)
    · skip
      have e9_0 : d.2.2.2.2 = (d_add d p0 p1 p2 p3).2.2.2.2 := by simp only [d_add, d_app, if_neg c_1, if_pos c_2]
      have e9_1 : d.1 = (d_add d p0 p1 p2 p3).1 := by simp only [d_add, d_app, if_neg c_1, if_pos c_2]
      have e9_2 : d.2.1 = (d_add d p0 p1 p2 p3).2.1 := by simp only [d_add, d_app, if_neg c_1, if_pos c_2]
      have e9_3 : d.2.2.1 = (d_add d p0 p1 p2 p3).2.2.1 := by simp only [d_add, d_app, if_neg c_1, if_pos c_2]
      have e9_4 : d.2.2.2.1 = (d_add d p0 p1 p2 p3).2.2.2.1 := by simp only [d_add, d_app, if_neg c_1, if_pos c_2]
      have hPz : va_P D vwCl [(h0, .inr (0, [.ref a1, .ref a2, .ref a3, .ref a4, .int ((d_add d p0 p1 p2 p3).2.2.2.2)])), (a1, .inr (2, [.ref b1])), (b1, .inl (cI, 17, .inl ((d_add d p0 p1 p2 p3).1))), (a2, .inr (2, [.ref b2])), (b2, .inl (cI, 17, .inl ((d_add d p0 p1 p2 p3).2.1))), (a3, .inr (2, [.ref b3])), (b3, .inl (cI, 17, .inl ((d_add d p0 p1 p2 p3).2.2.1))), (a4, .inr (2, [.ref b4])), (b4, .inl (cI, 17, .inl ((d_add d p0 p1 p2 p3).2.2.2.1)))] H := by rw [← e9_0, ← e9_1, ← e9_2, ← e9_3, ← e9_4]; exact hP
      exact W.vret hx hb hr (fun t ht hW => ⟨⟨rfl, by rw [ht]; exact hPz⟩, hS.F ht⟩) hS.2.2 dX0_add_120
    · skip
      refine lv_aload_n hx hb dX0_add_61 rfl (lv_at hl 1 rfl) ?_
      refine va_get (D := D) (ci := 0) (v := .ref a1) (C := RX0) (T := TX0) (N := 5) hx hb hts hin0 hown hK hP 0 rfl rfl 0 (by decide) hf16 (fun _ h9 => h9) rfl dX0_add_62 ?_
      refine lv_aload_n hx hb dX0_add_65 rfl (lv_at hl 1 rfl) ?_
      refine va_get (D := D) (ci := 0) (v := .int d.2.2.2.2) (C := RX0) (T := TX0) (N := 5) hx hb hts hin0 hown hK hP 0 rfl rfl 4 (by decide) hf29 (fun _ h9 => h9) rfl dX0_add_66 ?_
      refine lv_iload_n hx hb dX0_add_69 rfl (lv_at hl 2 rfl) ?_
      have hPc : va_P D vwCl [(a1, .inr (2, [.ref b1])), (b1, .inl (cI, 17, .inl d.1))] H := hP.sub [1, 2] rfl
      have hDc : va_D A [(a1, .inr (2, [.ref b1])), (b1, .inl (cI, 17, .inl d.1))] := hD.sub [1, 2] (by decide) rfl
      refine z_callWv (ws' := [(h0, .inr (0, [.ref a1, .ref a2, .ref a3, .ref a4, .int d.2.2.2.2])), (a1, .inr (2, [.ref b1])), (b1, .inl (cI, 17, .inl (r_set 17 d.1 d.2.2.2.2 p0))), (a2, .inr (2, [.ref b2])), (b2, .inl (cI, 17, .inl d.2.1)), (a3, .inr (2, [.ref b3])), (b3, .inl (cI, 17, .inl d.2.2.1)), (a4, .inr (2, [.ref b4])), (b4, .inl (cI, 17, .inl d.2.2.2.1))]) [1, 2] [0, 3, 4, 5, 6, 7, 8] [(h0, .inr (0, [.ref a1, .ref a2, .ref a3, .ref a4, .int d.2.2.2.2])), (a2, .inr (2, [.ref b2])), (b2, .inl (cI, 17, .inl d.2.1)), (a3, .inr (2, [.ref b3])), (b3, .inl (cI, 17, .inl d.2.2.1)), (a4, .inr (2, [.ref b4])), (b4, .inl (cI, 17, .inl d.2.2.2.1))] [h0, a1, b1, a2, b2, a3, b3, a4, b4] (va_runV (As := [.int d.2.2.2.2, .int p0]) (rest := []) ⟨hx, hb, hml, hown, hts⟩ (c_X2_set l D cI a1 b1 17 d.1 d.2.2.2.2 p0 H.size (by decide)) (cwV 2 hts gX0_add_X2_set rfl rfl rfl qd_X2_set ⟨Nat.le_of_ble_eq_true rfl, Nat.le_of_ble_eq_true rfl⟩) ⟨z_Pw_blind, va_recv hK hP (ci := 2) (q0 := 1) rfl rfl, fun U hU hW => ⟨rfl, by rw [hU], by rw [hU]; exact hPc, va_K.moved hW.alike hK, hDc.weaken (fun _ _ _ _ => trivial)⟩⟩ rfl rfl hl.1 rfl (lv_room (Nat.le_of_ble_eq_true rfl)) dX0_add_70 ⟨Nat.le_of_ble_eq_true rfl, Nat.le_of_ble_eq_true rfl⟩) hP hD hS hA ⟨rfl, rfl, rfl, rfl, rfl, rfl, rfl⟩ (fun H locs hP hD hS => ?_)
      generalize hs_3 : r_set 17 d.1 d.2.2.2.2 p0 = s_3 at hP hD ⊢
      refine lv_aload_n hx hb dX0_add_73 rfl (lv_at hl 1 rfl) ?_
      refine va_get (D := D) (ci := 0) (v := .ref a2) (C := RX0) (T := TX0) (N := 5) hx hb hts hin0 hown hK hP 0 rfl rfl 1 (by decide) hf20 (fun _ h9 => h9) rfl dX0_add_74 ?_
      refine lv_aload_n hx hb dX0_add_77 rfl (lv_at hl 1 rfl) ?_
      refine va_get (D := D) (ci := 0) (v := .int d.2.2.2.2) (C := RX0) (T := TX0) (N := 5) hx hb hts hin0 hown hK hP 0 rfl rfl 4 (by decide) hf29 (fun _ h9 => h9) rfl dX0_add_78 ?_
      refine lv_iload_n hx hb dX0_add_81 rfl (lv_at hl 3 rfl) ?_
      have hPc : va_P D vwCl [(a2, .inr (2, [.ref b2])), (b2, .inl (cI, 17, .inl d.2.1))] H := hP.sub [3, 4] rfl
      have hDc : va_D A [(a2, .inr (2, [.ref b2])), (b2, .inl (cI, 17, .inl d.2.1))] := hD.sub [3, 4] (by decide) rfl
      refine z_callWv (ws' := [(h0, .inr (0, [.ref a1, .ref a2, .ref a3, .ref a4, .int d.2.2.2.2])), (a1, .inr (2, [.ref b1])), (b1, .inl (cI, 17, .inl s_3)), (a2, .inr (2, [.ref b2])), (b2, .inl (cI, 17, .inl (r_set 17 d.2.1 d.2.2.2.2 p1))), (a3, .inr (2, [.ref b3])), (b3, .inl (cI, 17, .inl d.2.2.1)), (a4, .inr (2, [.ref b4])), (b4, .inl (cI, 17, .inl d.2.2.2.1))]) [3, 4] [0, 1, 2, 5, 6, 7, 8] [(h0, .inr (0, [.ref a1, .ref a2, .ref a3, .ref a4, .int d.2.2.2.2])), (a1, .inr (2, [.ref b1])), (b1, .inl (cI, 17, .inl s_3)), (a3, .inr (2, [.ref b3])), (b3, .inl (cI, 17, .inl d.2.2.1)), (a4, .inr (2, [.ref b4])), (b4, .inl (cI, 17, .inl d.2.2.2.1))] [h0, a1, b1, a2, b2, a3, b3, a4, b4] (va_runV (As := [.int d.2.2.2.2, .int p1]) (rest := []) ⟨hx, hb, hml, hown, hts⟩ (c_X2_set l D cI a2 b2 17 d.2.1 d.2.2.2.2 p1 H.size (by decide)) (cwV 2 hts gX0_add_X2_set rfl rfl rfl qd_X2_set ⟨Nat.le_of_ble_eq_true rfl, Nat.le_of_ble_eq_true rfl⟩) ⟨z_Pw_blind, va_recv hK hP (ci := 2) (q0 := 3) rfl rfl, fun U hU hW => ⟨rfl, by rw [hU], by rw [hU]; exact hPc, va_K.moved hW.alike hK, hDc.weaken (fun _ _ _ _ => trivial)⟩⟩ rfl rfl hl.1 rfl (lv_room (Nat.le_of_ble_eq_true rfl)) dX0_add_82 ⟨Nat.le_of_ble_eq_true rfl, Nat.le_of_ble_eq_true rfl⟩) hP hD hS hA ⟨rfl, rfl, rfl, rfl, rfl, rfl, rfl⟩ (fun H locs hP hD hS => ?_)
      generalize hs_4 : r_set 17 d.2.1 d.2.2.2.2 p1 = s_4 at hP hD ⊢
      refine lv_aload_n hx hb dX0_add_85 rfl (lv_at hl 1 rfl) ?_
      refine va_get (D := D) (ci := 0) (v := .ref a3) (C := RX0) (T := TX0) (N := 5) hx hb hts hin0 hown hK hP 0 rfl rfl 2 (by decide) hf23 (fun _ h9 => h9) rfl dX0_add_86 ?_
      refine lv_aload_n hx hb dX0_add_89 rfl (lv_at hl 1 rfl) ?_
      refine va_get (D := D) (ci := 0) (v := .int d.2.2.2.2) (C := RX0) (T := TX0) (N := 5) hx hb hts hin0 hown hK hP 0 rfl rfl 4 (by decide) hf29 (fun _ h9 => h9) rfl dX0_add_90 ?_
      refine lv_iload_n hx hb dX0_add_93 rfl (lv_at hl 4 rfl) ?_
      have hPc : va_P D vwCl [(a3, .inr (2, [.ref b3])), (b3, .inl (cI, 17, .inl d.2.2.1))] H := hP.sub [5, 6] rfl
      have hDc : va_D A [(a3, .inr (2, [.ref b3])), (b3, .inl (cI, 17, .inl d.2.2.1))] := hD.sub [5, 6] (by decide) rfl
      refine z_callWv (ws' := [(h0, .inr (0, [.ref a1, .ref a2, .ref a3, .ref a4, .int d.2.2.2.2])), (a1, .inr (2, [.ref b1])), (b1, .inl (cI, 17, .inl s_3)), (a2, .inr (2, [.ref b2])), (b2, .inl (cI, 17, .inl s_4)), (a3, .inr (2, [.ref b3])), (b3, .inl (cI, 17, .inl (r_set 17 d.2.2.1 d.2.2.2.2 p2))), (a4, .inr (2, [.ref b4])), (b4, .inl (cI, 17, .inl d.2.2.2.1))]) [5, 6] [0, 1, 2, 3, 4, 7, 8] [(h0, .inr (0, [.ref a1, .ref a2, .ref a3, .ref a4, .int d.2.2.2.2])), (a1, .inr (2, [.ref b1])), (b1, .inl (cI, 17, .inl s_3)), (a2, .inr (2, [.ref b2])), (b2, .inl (cI, 17, .inl s_4)), (a4, .inr (2, [.ref b4])), (b4, .inl (cI, 17, .inl d.2.2.2.1))] [h0, a1, b1, a2, b2, a3, b3, a4, b4] (va_runV (As := [.int d.2.2.2.2, .int p2]) (rest := []) ⟨hx, hb, hml, hown, hts⟩ (c_X2_set l D cI a3 b3 17 d.2.2.1 d.2.2.2.2 p2 H.size (by decide)) (cwV 2 hts gX0_add_X2_set rfl rfl rfl qd_X2_set ⟨Nat.le_of_ble_eq_true rfl, Nat.le_of_ble_eq_true rfl⟩) ⟨z_Pw_blind, va_recv hK hP (ci := 2) (q0 := 5) rfl rfl, fun U hU hW => ⟨rfl, by rw [hU], by rw [hU]; exact hPc, va_K.moved hW.alike hK, hDc.weaken (fun _ _ _ _ => trivial)⟩⟩ rfl rfl hl.1 rfl (lv_room (Nat.le_of_ble_eq_true rfl)) dX0_add_94 ⟨Nat.le_of_ble_eq_true rfl, Nat.le_of_ble_eq_true rfl⟩) hP hD hS hA ⟨rfl, rfl, rfl, rfl, rfl, rfl, rfl⟩ (fun H locs hP hD hS => ?_)
      generalize hs_5 : r_set 17 d.2.2.1 d.2.2.2.2 p2 = s_5 at hP hD ⊢
      refine lv_aload_n hx hb dX0_add_97 rfl (lv_at hl 1 rfl) ?_
      refine va_get (D := D) (ci := 0) (v := .ref a4) (C := RX0) (T := TX0) (N := 5) hx hb hts hin0 hown hK hP 0 rfl rfl 3 (by decide) hf26 (fun _ h9 => h9) rfl dX0_add_98 ?_
      refine lv_aload_n hx hb dX0_add_101 rfl (lv_at hl 1 rfl) ?_
      refine va_get (D := D) (ci := 0) (v := .int d.2.2.2.2) (C := RX0) (T := TX0) (N := 5) hx hb hts hin0 hown hK hP 0 rfl rfl 4 (by decide) hf29 (fun _ h9 => h9) rfl dX0_add_102 ?_
      refine lv_iload hx hb dX0_add_105 (lv_at hl 5 rfl) ?_
      have hPc : va_P D vwCl [(a4, .inr (2, [.ref b4])), (b4, .inl (cI, 17, .inl d.2.2.2.1))] H := hP.sub [7, 8] rfl
      have hDc : va_D A [(a4, .inr (2, [.ref b4])), (b4, .inl (cI, 17, .inl d.2.2.2.1))] := hD.sub [7, 8] (by decide) rfl
      refine z_callWv (ws' := [(h0, .inr (0, [.ref a1, .ref a2, .ref a3, .ref a4, .int d.2.2.2.2])), (a1, .inr (2, [.ref b1])), (b1, .inl (cI, 17, .inl s_3)), (a2, .inr (2, [.ref b2])), (b2, .inl (cI, 17, .inl s_4)), (a3, .inr (2, [.ref b3])), (b3, .inl (cI, 17, .inl s_5)), (a4, .inr (2, [.ref b4])), (b4, .inl (cI, 17, .inl (r_set 17 d.2.2.2.1 d.2.2.2.2 p3)))]) [7, 8] [0, 1, 2, 3, 4, 5, 6] [(h0, .inr (0, [.ref a1, .ref a2, .ref a3, .ref a4, .int d.2.2.2.2])), (a1, .inr (2, [.ref b1])), (b1, .inl (cI, 17, .inl s_3)), (a2, .inr (2, [.ref b2])), (b2, .inl (cI, 17, .inl s_4)), (a3, .inr (2, [.ref b3])), (b3, .inl (cI, 17, .inl s_5))] [h0, a1, b1, a2, b2, a3, b3, a4, b4] (va_runV (As := [.int d.2.2.2.2, .int p3]) (rest := []) ⟨hx, hb, hml, hown, hts⟩ (c_X2_set l D cI a4 b4 17 d.2.2.2.1 d.2.2.2.2 p3 H.size (by decide)) (cwV 2 hts gX0_add_X2_set rfl rfl rfl qd_X2_set ⟨Nat.le_of_ble_eq_true rfl, Nat.le_of_ble_eq_true rfl⟩) ⟨z_Pw_blind, va_recv hK hP (ci := 2) (q0 := 7) rfl rfl, fun U hU hW => ⟨rfl, by rw [hU], by rw [hU]; exact hPc, va_K.moved hW.alike hK, hDc.weaken (fun _ _ _ _ => trivial)⟩⟩ rfl rfl hl.1 rfl (lv_room (Nat.le_of_ble_eq_true rfl)) dX0_add_107 ⟨Nat.le_of_ble_eq_true rfl, Nat.le_of_ble_eq_true rfl⟩) hP hD hS hA ⟨rfl, rfl, rfl, rfl, rfl, rfl, rfl⟩ (fun H locs hP hD hS => ?_)
      generalize hs_6 : r_set 17 d.2.2.2.1 d.2.2.2.2 p3 = s_6 at hP hD ⊢
      refine lv_aload_n hx hb dX0_add_110 rfl (lv_at hl 1 rfl) ?_
      refine lv_dup hx hb dX0_add_111 rfl ?_
      refine va_get (D := D) (ci := 0) (v := .int d.2.2.2.2) (C := RX0) (T := TX0) (N := 5) hx hb hts hin0 hown hK hP 0 rfl rfl 4 (by decide) hf29 (fun _ h9 => h9) rfl dX0_add_112 ?_
      refine lv_iconst (v := 1) hx hb dX0_add_115 (by decide) ?_
      refine lv_iadd hx hb dX0_add_116 ?_
      refine va_put (D := D) (ci := 0) (v := .int (d.2.2.2.2 + 1)) (ty := .int) (C := RX0) (T := TX0) (N := 5) hx hb hts hin0 tyX0 tyX0_ok nmX0 hown hK hP hD hS 0 rfl rfl 4 (by decide) hf29 (fun _ h9 => h9) rfl (by decide +kernel) rfl rfl (Nat.le_of_ble_eq_true rfl) dX0_add_117 (fun H locs hP hD hS => ?_)
      have hP : va_P D vwCl [(h0, .inr (0, [.ref a1, .ref a2, .ref a3, .ref a4, .int (d.2.2.2.2 + 1)])), (a1, .inr (2, [.ref b1])), (b1, .inl (cI, 17, .inl s_3)), (a2, .inr (2, [.ref b2])), (b2, .inl (cI, 17, .inl s_4)), (a3, .inr (2, [.ref b3])), (b3, .inl (cI, 17, .inl s_5)), (a4, .inr (2, [.ref b4])), (b4, .inl (cI, 17, .inl s_6))] H := hP
      have hD : va_D A [(h0, .inr (0, [.ref a1, .ref a2, .ref a3, .ref a4, .int (d.2.2.2.2 + 1)])), (a1, .inr (2, [.ref b1])), (b1, .inl (cI, 17, .inl s_3)), (a2, .inr (2, [.ref b2])), (b2, .inl (cI, 17, .inl s_4)), (a3, .inr (2, [.ref b3])), (b3, .inl (cI, 17, .inl s_5)), (a4, .inr (2, [.ref b4])), (b4, .inl (cI, 17, .inl s_6))] := hD
      have e9_0 : d.2.2.2.2 + 1 = (d_add d p0 p1 p2 p3).2.2.2.2 := by subst hs_6 hs_5 hs_4 hs_3; simp only [d_add, d_app, if_neg c_1, if_neg c_2]
      have e9_1 : s_3 = (d_add d p0 p1 p2 p3).1 := by subst hs_6 hs_5 hs_4 hs_3; simp only [d_add, d_app, if_neg c_1, if_neg c_2]
      have e9_2 : s_4 = (d_add d p0 p1 p2 p3).2.1 := by subst hs_6 hs_5 hs_4 hs_3; simp only [d_add, d_app, if_neg c_1, if_neg c_2]
      have e9_3 : s_5 = (d_add d p0 p1 p2 p3).2.2.1 := by subst hs_6 hs_5 hs_4 hs_3; simp only [d_add, d_app, if_neg c_1, if_neg c_2]
      have e9_4 : s_6 = (d_add d p0 p1 p2 p3).2.2.2.1 := by subst hs_6 hs_5 hs_4 hs_3; simp only [d_add, d_app, if_neg c_1, if_neg c_2]
      have hPz : va_P D vwCl [(h0, .inr (0, [.ref a1, .ref a2, .ref a3, .ref a4, .int ((d_add d p0 p1 p2 p3).2.2.2.2)])), (a1, .inr (2, [.ref b1])), (b1, .inl (cI, 17, .inl ((d_add d p0 p1 p2 p3).1))), (a2, .inr (2, [.ref b2])), (b2, .inl (cI, 17, .inl ((d_add d p0 p1 p2 p3).2.1))), (a3, .inr (2, [.ref b3])), (b3, .inl (cI, 17, .inl ((d_add d p0 p1 p2 p3).2.2.1))), (a4, .inr (2, [.ref b4])), (b4, .inl (cI, 17, .inl ((d_add d p0 p1 p2 p3).2.2.2.1)))] H := by rw [← e9_0, ← e9_1, ← e9_2, ← e9_3, ← e9_4]; exact hP
      exact W.vret hx hb hr (fun t ht hW => ⟨⟨rfl, by rw [ht]; exact hPz⟩, hS.F ht⟩) hS.2.2 dX0_add_120
  · skip
    refine lv_iload hx hb dX0_add_12 (lv_at hl 0 rfl) ?_
    refine lv_if_lt (tgt := 52) hx hb dX0_add_14 (by decide) (fun c_7 => ?_) (fun c_7 => ?_)
    · skip
      refine lv_aload_n hx hb dX0_add_52 rfl (lv_at hl 1 rfl) ?_
      refine va_get (D := D) (ci := 0) (v := .int d.2.2.2.2) (C := RX0) (T := TX0) (N := 5) hx hb hts hin0 hown hK hP 0 rfl rfl 4 (by decide) hf29 (fun _ h9 => h9) rfl dX0_add_53 ?_
      refine lv_bipush (v := 17) hx hb dX0_add_56 (by decide) ?_
      refine lv_icmp_ge (tgt := 120) hx hb dX0_add_58 (by decide) (fun c_8 => ?_) (fun c_8 => ?_)
      · skip
        have e9_0 : d.2.2.2.2 = (d_add d p0 p1 p2 p3).2.2.2.2 := by simp only [d_add, d_app, if_pos c_1, if_pos c_7, if_pos c_8]
        have e9_1 : d.1 = (d_add d p0 p1 p2 p3).1 := by simp only [d_add, d_app, if_pos c_1, if_pos c_7, if_pos c_8]
        have e9_2 : d.2.1 = (d_add d p0 p1 p2 p3).2.1 := by simp only [d_add, d_app, if_pos c_1, if_pos c_7, if_pos c_8]
        have e9_3 : d.2.2.1 = (d_add d p0 p1 p2 p3).2.2.1 := by simp only [d_add, d_app, if_pos c_1, if_pos c_7, if_pos c_8]
        have e9_4 : d.2.2.2.1 = (d_add d p0 p1 p2 p3).2.2.2.1 := by simp only [d_add, d_app, if_pos c_1, if_pos c_7, if_pos c_8]
        have hPz : va_P D vwCl [(h0, .inr (0, [.ref a1, .ref a2, .ref a3, .ref a4, .int ((d_add d p0 p1 p2 p3).2.2.2.2)])), (a1, .inr (2, [.ref b1])), (b1, .inl (cI, 17, .inl ((d_add d p0 p1 p2 p3).1))), (a2, .inr (2, [.ref b2])), (b2, .inl (cI, 17, .inl ((d_add d p0 p1 p2 p3).2.1))), (a3, .inr (2, [.ref b3])), (b3, .inl (cI, 17, .inl ((d_add d p0 p1 p2 p3).2.2.1))), (a4, .inr (2, [.ref b4])), (b4, .inl (cI, 17, .inl ((d_add d p0 p1 p2 p3).2.2.2.1)))] H := by rw [← e9_0, ← e9_1, ← e9_2, ← e9_3, ← e9_4]; exact hP
        exact W.vret hx hb hr (fun t ht hW => ⟨⟨rfl, by rw [ht]; exact hPz⟩, hS.F ht⟩) hS.2.2 dX0_add_120
      · skip
        refine lv_aload_n hx hb dX0_add_61 rfl (lv_at hl 1 rfl) ?_
        refine va_get (D := D) (ci := 0) (v := .ref a1) (C := RX0) (T := TX0) (N := 5) hx hb hts hin0 hown hK hP 0 rfl rfl 0 (by decide) hf16 (fun _ h9 => h9) rfl dX0_add_62 ?_
        refine lv_aload_n hx hb dX0_add_65 rfl (lv_at hl 1 rfl) ?_
        refine va_get (D := D) (ci := 0) (v := .int d.2.2.2.2) (C := RX0) (T := TX0) (N := 5) hx hb hts hin0 hown hK hP 0 rfl rfl 4 (by decide) hf29 (fun _ h9 => h9) rfl dX0_add_66 ?_
        refine lv_iload_n hx hb dX0_add_69 rfl (lv_at hl 2 rfl) ?_
        have hPc : va_P D vwCl [(a1, .inr (2, [.ref b1])), (b1, .inl (cI, 17, .inl d.1))] H := hP.sub [1, 2] rfl
        have hDc : va_D A [(a1, .inr (2, [.ref b1])), (b1, .inl (cI, 17, .inl d.1))] := hD.sub [1, 2] (by decide) rfl
        refine z_callWv (ws' := [(h0, .inr (0, [.ref a1, .ref a2, .ref a3, .ref a4, .int d.2.2.2.2])), (a1, .inr (2, [.ref b1])), (b1, .inl (cI, 17, .inl (r_set 17 d.1 d.2.2.2.2 p0))), (a2, .inr (2, [.ref b2])), (b2, .inl (cI, 17, .inl d.2.1)), (a3, .inr (2, [.ref b3])), (b3, .inl (cI, 17, .inl d.2.2.1)), (a4, .inr (2, [.ref b4])), (b4, .inl (cI, 17, .inl d.2.2.2.1))]) [1, 2] [0, 3, 4, 5, 6, 7, 8] [(h0, .inr (0, [.ref a1, .ref a2, .ref a3, .ref a4, .int d.2.2.2.2])), (a2, .inr (2, [.ref b2])), (b2, .inl (cI, 17, .inl d.2.1)), (a3, .inr (2, [.ref b3])), (b3, .inl (cI, 17, .inl d.2.2.1)), (a4, .inr (2, [.ref b4])), (b4, .inl (cI, 17, .inl d.2.2.2.1))] [h0, a1, b1, a2, b2, a3, b3, a4, b4] (va_runV (As := [.int d.2.2.2.2, .int p0]) (rest := []) ⟨hx, hb, hml, hown, hts⟩ (c_X2_set l D cI a1 b1 17 d.1 d.2.2.2.2 p0 H.size (by decide)) (cwV 2 hts gX0_add_X2_set rfl rfl rfl qd_X2_set ⟨Nat.le_of_ble_eq_true rfl, Nat.le_of_ble_eq_true rfl⟩) ⟨z_Pw_blind, va_recv hK hP (ci := 2) (q0 := 1) rfl rfl, fun U hU hW => ⟨rfl, by rw [hU], by rw [hU]; exact hPc, va_K.moved hW.alike hK, hDc.weaken (fun _ _ _ _ => trivial)⟩⟩ rfl rfl hl.1 rfl (lv_room (Nat.le_of_ble_eq_true rfl)) dX0_add_70 ⟨Nat.le_of_ble_eq_true rfl, Nat.le_of_ble_eq_true rfl⟩) hP hD hS hA ⟨rfl, rfl, rfl, rfl, rfl, rfl, rfl⟩ (fun H locs hP hD hS => ?_)
        generalize hs_9 : r_set 17 d.1 d.2.2.2.2 p0 = s_9 at hP hD ⊢
        refine lv_aload_n hx hb dX0_add_73 rfl (lv_at hl 1 rfl) ?_
        refine va_get (D := D) (ci := 0) (v := .ref a2) (C := RX0) (T := TX0) (N := 5) hx hb hts hin0 hown hK hP 0 rfl rfl 1 (by decide) hf20 (fun _ h9 => h9) rfl dX0_add_74 ?_
        refine lv_aload_n hx hb dX0_add_77 rfl (lv_at hl 1 rfl) ?_
        refine va_get (D := D) (ci := 0) (v := .int d.2.2.2.2) (C := RX0) (T := TX0) (N := 5) hx hb hts hin0 hown hK hP 0 rfl rfl 4 (by decide) hf29 (fun _ h9 => h9) rfl dX0_add_78 ?_
        refine lv_iload_n hx hb dX0_add_81 rfl (lv_at hl 3 rfl) ?_
        have hPc : va_P D vwCl [(a2, .inr (2, [.ref b2])), (b2, .inl (cI, 17, .inl d.2.1))] H := hP.sub [3, 4] rfl
        have hDc : va_D A [(a2, .inr (2, [.ref b2])), (b2, .inl (cI, 17, .inl d.2.1))] := hD.sub [3, 4] (by decide) rfl
        refine z_callWv (ws' := [(h0, .inr (0, [.ref a1, .ref a2, .ref a3, .ref a4, .int d.2.2.2.2])), (a1, .inr (2, [.ref b1])), (b1, .inl (cI, 17, .inl s_9)), (a2, .inr (2, [.ref b2])), (b2, .inl (cI, 17, .inl (r_set 17 d.2.1 d.2.2.2.2 p1))), (a3, .inr (2, [.ref b3])), (b3, .inl (cI, 17, .inl d.2.2.1)), (a4, .inr (2, [.ref b4])), (b4, .inl (cI, 17, .inl d.2.2.2.1))]) [3, 4] [0, 1, 2, 5, 6, 7, 8] [(h0, .inr (0, [.ref a1, .ref a2, .ref a3, .ref a4, .int d.2.2.2.2])), (a1, .inr (2, [.ref b1])), (b1, .inl (cI, 17, .inl s_9)), (a3, .inr (2, [.ref b3])), (b3, .inl (cI, 17, .inl d.2.2.1)), (a4, .inr (2, [.ref b4])), (b4, .inl (cI, 17, .inl d.2.2.2.1))] [h0, a1, b1, a2, b2, a3, b3, a4, b4] (va_runV (As := [.int d.2.2.2.2, .int p1]) (rest := []) ⟨hx, hb, hml, hown, hts⟩ (c_X2_set l D cI a2 b2 17 d.2.1 d.2.2.2.2 p1 H.size (by decide)) (cwV 2 hts gX0_add_X2_set rfl rfl rfl qd_X2_set ⟨Nat.le_of_ble_eq_true rfl, Nat.le_of_ble_eq_true rfl⟩) ⟨z_Pw_blind, va_recv hK hP (ci := 2) (q0 := 3) rfl rfl, fun U hU hW => ⟨rfl, by rw [hU], by rw [hU]; exact hPc, va_K.moved hW.alike hK, hDc.weaken (fun _ _ _ _ => trivial)⟩⟩ rfl rfl hl.1 rfl (lv_room (Nat.le_of_ble_eq_true rfl)) dX0_add_82 ⟨Nat.le_of_ble_eq_true rfl, Nat.le_of_ble_eq_true rfl⟩) hP hD hS hA ⟨rfl, rfl, rfl, rfl, rfl, rfl, rfl⟩ (fun H locs hP hD hS => ?_)
        generalize hs_10 : r_set 17 d.2.1 d.2.2.2.2 p1 = s_10 at hP hD ⊢
        refine lv_aload_n hx hb dX0_add_85 rfl (lv_at hl 1 rfl) ?_
        refine va_get (D := D) (ci := 0) (v := .ref a3) (C := RX0) (T := TX0) (N := 5) hx hb hts hin0 hown hK hP 0 rfl rfl 2 (by decide) hf23 (fun _ h9 => h9) rfl dX0_add_86 ?_
        refine lv_aload_n hx hb dX0_add_89 rfl (lv_at hl 1 rfl) ?_
        refine va_get (D := D) (ci := 0) (v := .int d.2.2.2.2) (C := RX0) (T := TX0) (N := 5) hx hb hts hin0 hown hK hP 0 rfl rfl 4 (by decide) hf29 (fun _ h9 => h9) rfl dX0_add_90 ?_
        refine lv_iload_n hx hb dX0_add_93 rfl (lv_at hl 4 rfl) ?_
        have hPc : va_P D vwCl [(a3, .inr (2, [.ref b3])), (b3, .inl (cI, 17, .inl d.2.2.1))] H := hP.sub [5, 6] rfl
        have hDc : va_D A [(a3, .inr (2, [.ref b3])), (b3, .inl (cI, 17, .inl d.2.2.1))] := hD.sub [5, 6] (by decide) rfl
        refine z_callWv (ws' := [(h0, .inr (0, [.ref a1, .ref a2, .ref a3, .ref a4, .int d.2.2.2.2])), (a1, .inr (2, [.ref b1])), (b1, .inl (cI, 17, .inl s_9)), (a2, .inr (2, [.ref b2])), (b2, .inl (cI, 17, .inl s_10)), (a3, .inr (2, [.ref b3])), (b3, .inl (cI, 17, .inl (r_set 17 d.2.2.1 d.2.2.2.2 p2))), (a4, .inr (2, [.ref b4])), (b4, .inl (cI, 17, .inl d.2.2.2.1))]) [5, 6] [0, 1, 2, 3, 4, 7, 8] [(h0, .inr (0, [.ref a1, .ref a2, .ref a3, .ref a4, .int d.2.2.2.2])), (a1, .inr (2, [.ref b1])), (b1, .inl (cI, 17, .inl s_9)), (a2, .inr (2, [.ref b2])), (b2, .inl (cI, 17, .inl s_10)), (a4, .inr (2, [.ref b4])), (b4, .inl (cI, 17, .inl d.2.2.2.1))] [h0, a1, b1, a2, b2, a3, b3, a4, b4] (va_runV (As := [.int d.2.2.2.2, .int p2]) (rest := []) ⟨hx, hb, hml, hown, hts⟩ (c_X2_set l D cI a3 b3 17 d.2.2.1 d.2.2.2.2 p2 H.size (by decide)) (cwV 2 hts gX0_add_X2_set rfl rfl rfl qd_X2_set ⟨Nat.le_of_ble_eq_true rfl, Nat.le_of_ble_eq_true rfl⟩) ⟨z_Pw_blind, va_recv hK hP (ci := 2) (q0 := 5) rfl rfl, fun U hU hW => ⟨rfl, by rw [hU], by rw [hU]; exact hPc, va_K.moved hW.alike hK, hDc.weaken (fun _ _ _ _ => trivial)⟩⟩ rfl rfl hl.1 rfl (lv_room (Nat.le_of_ble_eq_true rfl)) dX0_add_94 ⟨Nat.le_of_ble_eq_true rfl, Nat.le_of_ble_eq_true rfl⟩) hP hD hS hA ⟨rfl, rfl, rfl, rfl, rfl, rfl, rfl⟩ (fun H locs hP hD hS => ?_)
        generalize hs_11 : r_set 17 d.2.2.1 d.2.2.2.2 p2 = s_11 at hP hD ⊢
        refine lv_aload_n hx hb dX0_add_97 rfl (lv_at hl 1 rfl) ?_
        refine va_get (D := D) (ci := 0) (v := .ref a4) (C := RX0) (T := TX0) (N := 5) hx hb hts hin0 hown hK hP 0 rfl rfl 3 (by decide) hf26 (fun _ h9 => h9) rfl dX0_add_98 ?_
        refine lv_aload_n hx hb dX0_add_101 rfl (lv_at hl 1 rfl) ?_
        refine va_get (D := D) (ci := 0) (v := .int d.2.2.2.2) (C := RX0) (T := TX0) (N := 5) hx hb hts hin0 hown hK hP 0 rfl rfl 4 (by decide) hf29 (fun _ h9 => h9) rfl dX0_add_102 ?_
        refine lv_iload hx hb dX0_add_105 (lv_at hl 5 rfl) ?_
        have hPc : va_P D vwCl [(a4, .inr (2, [.ref b4])), (b4, .inl (cI, 17, .inl d.2.2.2.1))] H := hP.sub [7, 8] rfl
        have hDc : va_D A [(a4, .inr (2, [.ref b4])), (b4, .inl (cI, 17, .inl d.2.2.2.1))] := hD.sub [7, 8] (by decide) rfl
        refine z_callWv (ws' := [(h0, .inr (0, [.ref a1, .ref a2, .ref a3, .ref a4, .int d.2.2.2.2])), (a1, .inr (2, [.ref b1])), (b1, .inl (cI, 17, .inl s_9)), (a2, .inr (2, [.ref b2])), (b2, .inl (cI, 17, .inl s_10)), (a3, .inr (2, [.ref b3])), (b3, .inl (cI, 17, .inl s_11)), (a4, .inr (2, [.ref b4])), (b4, .inl (cI, 17, .inl (r_set 17 d.2.2.2.1 d.2.2.2.2 p3)))]) [7, 8] [0, 1, 2, 3, 4, 5, 6] [(h0, .inr (0, [.ref a1, .ref a2, .ref a3, .ref a4, .int d.2.2.2.2])), (a1, .inr (2, [.ref b1])), (b1, .inl (cI, 17, .inl s_9)), (a2, .inr (2, [.ref b2])), (b2, .inl (cI, 17, .inl s_10)), (a3, .inr (2, [.ref b3])), (b3, .inl (cI, 17, .inl s_11))] [h0, a1, b1, a2, b2, a3, b3, a4, b4] (va_runV (As := [.int d.2.2.2.2, .int p3]) (rest := []) ⟨hx, hb, hml, hown, hts⟩ (c_X2_set l D cI a4 b4 17 d.2.2.2.1 d.2.2.2.2 p3 H.size (by decide)) (cwV 2 hts gX0_add_X2_set rfl rfl rfl qd_X2_set ⟨Nat.le_of_ble_eq_true rfl, Nat.le_of_ble_eq_true rfl⟩) ⟨z_Pw_blind, va_recv hK hP (ci := 2) (q0 := 7) rfl rfl, fun U hU hW => ⟨rfl, by rw [hU], by rw [hU]; exact hPc, va_K.moved hW.alike hK, hDc.weaken (fun _ _ _ _ => trivial)⟩⟩ rfl rfl hl.1 rfl (lv_room (Nat.le_of_ble_eq_true rfl)) dX0_add_107 ⟨Nat.le_of_ble_eq_true rfl, Nat.le_of_ble_eq_true rfl⟩) hP hD hS hA ⟨rfl, rfl, rfl, rfl, rfl, rfl, rfl⟩ (fun H locs hP hD hS => ?_)
        generalize hs_12 : r_set 17 d.2.2.2.1 d.2.2.2.2 p3 = s_12 at hP hD ⊢
        refine lv_aload_n hx hb dX0_add_110 rfl (lv_at hl 1 rfl) ?_
        refine lv_dup hx hb dX0_add_111 rfl ?_
        refine va_get (D := D) (ci := 0) (v := .int d.2.2.2.2) (C := RX0) (T := TX0) (N := 5) hx hb hts hin0 hown hK hP 0 rfl rfl 4 (by decide) hf29 (fun _ h9 => h9) rfl dX0_add_112 ?_
        refine lv_iconst (v := 1) hx hb dX0_add_115 (by decide) ?_
        refine lv_iadd hx hb dX0_add_116 ?_
        refine va_put (D := D) (ci := 0) (v := .int (d.2.2.2.2 + 1)) (ty := .int) (C := RX0) (T := TX0) (N := 5) hx hb hts hin0 tyX0 tyX0_ok nmX0 hown hK hP hD hS 0 rfl rfl 4 (by decide) hf29 (fun _ h9 => h9) rfl (by decide +kernel) rfl rfl (Nat.le_of_ble_eq_true rfl) dX0_add_117 (fun H locs hP hD hS => ?_)
        have hP : va_P D vwCl [(h0, .inr (0, [.ref a1, .ref a2, .ref a3, .ref a4, .int (d.2.2.2.2 + 1)])), (a1, .inr (2, [.ref b1])), (b1, .inl (cI, 17, .inl s_9)), (a2, .inr (2, [.ref b2])), (b2, .inl (cI, 17, .inl s_10)), (a3, .inr (2, [.ref b3])), (b3, .inl (cI, 17, .inl s_11)), (a4, .inr (2, [.ref b4])), (b4, .inl (cI, 17, .inl s_12))] H := hP
        have hD : va_D A [(h0, .inr (0, [.ref a1, .ref a2, .ref a3, .ref a4, .int (d.2.2.2.2 + 1)])), (a1, .inr (2, [.ref b1])), (b1, .inl (cI, 17, .inl s_9)), (a2, .inr (2, [.ref b2])), (b2, .inl (cI, 17, .inl s_10)), (a3, .inr (2, [.ref b3])), (b3, .inl (cI, 17, .inl s_11)), (a4, .inr (2, [.ref b4])), (b4, .inl (cI, 17, .inl s_12))] := hD
        have e9_0 : d.2.2.2.2 + 1 = (d_add d p0 p1 p2 p3).2.2.2.2 := by subst hs_12 hs_11 hs_10 hs_9; simp only [d_add, d_app, if_pos c_1, if_pos c_7, if_neg c_8]
        have e9_1 : s_9 = (d_add d p0 p1 p2 p3).1 := by subst hs_12 hs_11 hs_10 hs_9; simp only [d_add, d_app, if_pos c_1, if_pos c_7, if_neg c_8]
        have e9_2 : s_10 = (d_add d p0 p1 p2 p3).2.1 := by subst hs_12 hs_11 hs_10 hs_9; simp only [d_add, d_app, if_pos c_1, if_pos c_7, if_neg c_8]
        have e9_3 : s_11 = (d_add d p0 p1 p2 p3).2.2.1 := by subst hs_12 hs_11 hs_10 hs_9; simp only [d_add, d_app, if_pos c_1, if_pos c_7, if_neg c_8]
        have e9_4 : s_12 = (d_add d p0 p1 p2 p3).2.2.2.1 := by subst hs_12 hs_11 hs_10 hs_9; simp only [d_add, d_app, if_pos c_1, if_pos c_7, if_neg c_8]
        have hPz : va_P D vwCl [(h0, .inr (0, [.ref a1, .ref a2, .ref a3, .ref a4, .int ((d_add d p0 p1 p2 p3).2.2.2.2)])), (a1, .inr (2, [.ref b1])), (b1, .inl (cI, 17, .inl ((d_add d p0 p1 p2 p3).1))), (a2, .inr (2, [.ref b2])), (b2, .inl (cI, 17, .inl ((d_add d p0 p1 p2 p3).2.1))), (a3, .inr (2, [.ref b3])), (b3, .inl (cI, 17, .inl ((d_add d p0 p1 p2 p3).2.2.1))), (a4, .inr (2, [.ref b4])), (b4, .inl (cI, 17, .inl ((d_add d p0 p1 p2 p3).2.2.2.1)))] H := by rw [← e9_0, ← e9_1, ← e9_2, ← e9_3, ← e9_4]; exact hP
        exact W.vret hx hb hr (fun t ht hW => ⟨⟨rfl, by rw [ht]; exact hPz⟩, hS.F ht⟩) hS.2.2 dX0_add_120
    · skip
      refine lv_aload_n hx hb dX0_add_17 rfl (lv_at hl 1 rfl) ?_
      refine va_get (D := D) (ci := 0) (v := .ref a1) (C := RX0) (T := TX0) (N := 5) hx hb hts hin0 hown hK hP 0 rfl rfl 0 (by decide) hf16 (fun _ h9 => h9) rfl dX0_add_18 ?_
      refine lv_iload hx hb dX0_add_21 (lv_at hl 0 rfl) ?_
      refine z_callRi (va_runV (As := [.int (d.2.2.2.2 - 1)]) (rest := []) ⟨hx, hb, hml, hown, hts⟩ (c_X2_at l D cI a1 b1 17 d.1 (d.2.2.2.2 - 1) (by decide)) (cwV 1 hts gX0_add_X2_at rfl rfl rfl qd_X2_at ⟨Nat.le_of_ble_eq_true rfl, Nat.le_of_ble_eq_true rfl⟩) ⟨z_Pr_blind, va_recv hK hP (ci := 2) (q0 := 1) rfl rfl, fun U hU hW => ⟨rfl, by rw [hU]; exact hP.sub (ws' := [(a1, .inr (2, [.ref b1])), (b1, .inl (cI, 17, .inl d.1))]) [1, 2] rfl, va_K.moved hW.alike hK⟩⟩ rfl rfl hl.1 rfl (lv_room (Nat.le_of_ble_eq_true rfl)) dX0_add_23 ⟨Nat.le_of_ble_eq_true rfl, Nat.le_of_ble_eq_true rfl⟩) ?_
      refine lv_if_ne (tgt := 52) hx hb dX0_add_26 (by decide) (fun c_13 => ?_) (fun c_13 => ?_)
      · skip
        refine lv_aload_n hx hb dX0_add_52 rfl (lv_at hl 1 rfl) ?_
        refine va_get (D := D) (ci := 0) (v := .int d.2.2.2.2) (C := RX0) (T := TX0) (N := 5) hx hb hts hin0 hown hK hP 0 rfl rfl 4 (by decide) hf29 (fun _ h9 => h9) rfl dX0_add_53 ?_
        refine lv_bipush (v := 17) hx hb dX0_add_56 (by decide) ?_
        refine lv_icmp_ge (tgt := 120) hx hb dX0_add_58 (by decide) (fun c_14 => ?_) (fun c_14 => ?_)
        · skip
          have e9_0 : d.2.2.2.2 = (d_add d p0 p1 p2 p3).2.2.2.2 := by simp only [d_add, d_app, if_pos c_1, if_neg c_7, if_neg c_13, if_pos c_14]
          have e9_1 : d.1 = (d_add d p0 p1 p2 p3).1 := by simp only [d_add, d_app, if_pos c_1, if_neg c_7, if_neg c_13, if_pos c_14]
          have e9_2 : d.2.1 = (d_add d p0 p1 p2 p3).2.1 := by simp only [d_add, d_app, if_pos c_1, if_neg c_7, if_neg c_13, if_pos c_14]
          have e9_3 : d.2.2.1 = (d_add d p0 p1 p2 p3).2.2.1 := by simp only [d_add, d_app, if_pos c_1, if_neg c_7, if_neg c_13, if_pos c_14]
          have e9_4 : d.2.2.2.1 = (d_add d p0 p1 p2 p3).2.2.2.1 := by simp only [d_add, d_app, if_pos c_1, if_neg c_7, if_neg c_13, if_pos c_14]
          have hPz : va_P D vwCl [(h0, .inr (0, [.ref a1, .ref a2, .ref a3, .ref a4, .int ((d_add d p0 p1 p2 p3).2.2.2.2)])), (a1, .inr (2, [.ref b1])), (b1, .inl (cI, 17, .inl ((d_add d p0 p1 p2 p3).1))), (a2, .inr (2, [.ref b2])), (b2, .inl (cI, 17, .inl ((d_add d p0 p1 p2 p3).2.1))), (a3, .inr (2, [.ref b3])), (b3, .inl (cI, 17, .inl ((d_add d p0 p1 p2 p3).2.2.1))), (a4, .inr (2, [.ref b4])), (b4, .inl (cI, 17, .inl ((d_add d p0 p1 p2 p3).2.2.2.1)))] H := by rw [← e9_0, ← e9_1, ← e9_2, ← e9_3, ← e9_4]; exact hP
          exact W.vret hx hb hr (fun t ht hW => ⟨⟨rfl, by rw [ht]; exact hPz⟩, hS.F ht⟩) hS.2.2 dX0_add_120
        · skip
          refine lv_aload_n hx hb dX0_add_61 rfl (lv_at hl 1 rfl) ?_
          refine va_get (D := D) (ci := 0) (v := .ref a1) (C := RX0) (T := TX0) (N := 5) hx hb hts hin0 hown hK hP 0 rfl rfl 0 (by decide) hf16 (fun _ h9 => h9) rfl dX0_add_62 ?_
          refine lv_aload_n hx hb dX0_add_65 rfl (lv_at hl 1 rfl) ?_
          refine va_get (D := D) (ci := 0) (v := .int d.2.2.2.2) (C := RX0) (T := TX0) (N := 5) hx hb hts hin0 hown hK hP 0 rfl rfl 4 (by decide) hf29 (fun _ h9 => h9) rfl dX0_add_66 ?_
          refine lv_iload_n hx hb dX0_add_69 rfl (lv_at hl 2 rfl) ?_
          have hPc : va_P D vwCl [(a1, .inr (2, [.ref b1])), (b1, .inl (cI, 17, .inl d.1))] H := hP.sub [1, 2] rfl
          have hDc : va_D A [(a1, .inr (2, [.ref b1])), (b1, .inl (cI, 17, .inl d.1))] := hD.sub [1, 2] (by decide) rfl
          refine z_callWv (ws' := [(h0, .inr (0, [.ref a1, .ref a2, .ref a3, .ref a4, .int d.2.2.2.2])), (a1, .inr (2, [.ref b1])), (b1, .inl (cI, 17, .inl (r_set 17 d.1 d.2.2.2.2 p0))), (a2, .inr (2, [.ref b2])), (b2, .inl (cI, 17, .inl d.2.1)), (a3, .inr (2, [.ref b3])), (b3, .inl (cI, 17, .inl d.2.2.1)), (a4, .inr (2, [.ref b4])), (b4, .inl (cI, 17, .inl d.2.2.2.1))]) [1, 2] [0, 3, 4, 5, 6, 7, 8] [(h0, .inr (0, [.ref a1, .ref a2, .ref a3, .ref a4, .int d.2.2.2.2])), (a2, .inr (2, [.ref b2])), (b2, .inl (cI, 17, .inl d.2.1)), (a3, .inr (2, [.ref b3])), (b3, .inl (cI, 17, .inl d.2.2.1)), (a4, .inr (2, [.ref b4])), (b4, .inl (cI, 17, .inl d.2.2.2.1))] [h0, a1, b1, a2, b2, a3, b3, a4, b4] (va_runV (As := [.int d.2.2.2.2, .int p0]) (rest := []) ⟨hx, hb, hml, hown, hts⟩ (c_X2_set l D cI a1 b1 17 d.1 d.2.2.2.2 p0 H.size (by decide)) (cwV 2 hts gX0_add_X2_set rfl rfl rfl qd_X2_set ⟨Nat.le_of_ble_eq_true rfl, Nat.le_of_ble_eq_true rfl⟩) ⟨z_Pw_blind, va_recv hK hP (ci := 2) (q0 := 1) rfl rfl, fun U hU hW => ⟨rfl, by rw [hU], by rw [hU]; exact hPc, va_K.moved hW.alike hK, hDc.weaken (fun _ _ _ _ => trivial)⟩⟩ rfl rfl hl.1 rfl (lv_room (Nat.le_of_ble_eq_true rfl)) dX0_add_70 ⟨Nat.le_of_ble_eq_true rfl, Nat.le_of_ble_eq_true rfl⟩) hP hD hS hA ⟨rfl, rfl, rfl, rfl, rfl, rfl, rfl⟩ (fun H locs hP hD hS => ?_)
          generalize hs_15 : r_set 17 d.1 d.2.2.2.2 p0 = s_15 at hP hD ⊢
          refine lv_aload_n hx hb dX0_add_73 rfl (lv_at hl 1 rfl) ?_
          refine va_get (D := D) (ci := 0) (v := .ref a2) (C := RX0) (T := TX0) (N := 5) hx hb hts hin0 hown hK hP 0 rfl rfl 1 (by decide) hf20 (fun _ h9 => h9) rfl dX0_add_74 ?_
          refine lv_aload_n hx hb dX0_add_77 rfl (lv_at hl 1 rfl) ?_
          refine va_get (D := D) (ci := 0) (v := .int d.2.2.2.2) (C := RX0) (T := TX0) (N := 5) hx hb hts hin0 hown hK hP 0 rfl rfl 4 (by decide) hf29 (fun _ h9 => h9) rfl dX0_add_78 ?_
          refine lv_iload_n hx hb dX0_add_81 rfl (lv_at hl 3 rfl) ?_
          have hPc : va_P D vwCl [(a2, .inr (2, [.ref b2])), (b2, .inl (cI, 17, .inl d.2.1))] H := hP.sub [3, 4] rfl
          have hDc : va_D A [(a2, .inr (2, [.ref b2])), (b2, .inl (cI, 17, .inl d.2.1))] := hD.sub [3, 4] (by decide) rfl
          refine z_callWv (ws' := [(h0, .inr (0, [.ref a1, .ref a2, .ref a3, .ref a4, .int d.2.2.2.2])), (a1, .inr (2, [.ref b1])), (b1, .inl (cI, 17, .inl s_15)), (a2, .inr (2, [.ref b2])), (b2, .inl (cI, 17, .inl (r_set 17 d.2.1 d.2.2.2.2 p1))), (a3, .inr (2, [.ref b3])), (b3, .inl (cI, 17, .inl d.2.2.1)), (a4, .inr (2, [.ref b4])), (b4, .inl (cI, 17, .inl d.2.2.2.1))]) [3, 4] [0, 1, 2, 5, 6, 7, 8] [(h0, .inr (0, [.ref a1, .ref a2, .ref a3, .ref a4, .int d.2.2.2.2])), (a1, .inr (2, [.ref b1])), (b1, .inl (cI, 17, .inl s_15)), (a3, .inr (2, [.ref b3])), (b3, .inl (cI, 17, .inl d.2.2.1)), (a4, .inr (2, [.ref b4])), (b4, .inl (cI, 17, .inl d.2.2.2.1))] [h0, a1, b1, a2, b2, a3, b3, a4, b4] (va_runV (As := [.int d.2.2.2.2, .int p1]) (rest := []) ⟨hx, hb, hml, hown, hts⟩ (c_X2_set l D cI a2 b2 17 d.2.1 d.2.2.2.2 p1 H.size (by decide)) (cwV 2 hts gX0_add_X2_set rfl rfl rfl qd_X2_set ⟨Nat.le_of_ble_eq_true rfl, Nat.le_of_ble_eq_true rfl⟩) ⟨z_Pw_blind, va_recv hK hP (ci := 2) (q0 := 3) rfl rfl, fun U hU hW => ⟨rfl, by rw [hU], by rw [hU]; exact hPc, va_K.moved hW.alike hK, hDc.weaken (fun _ _ _ _ => trivial)⟩⟩ rfl rfl hl.1 rfl (lv_room (Nat.le_of_ble_eq_true rfl)) dX0_add_82 ⟨Nat.le_of_ble_eq_true rfl, Nat.le_of_ble_eq_true rfl⟩) hP hD hS hA ⟨rfl, rfl, rfl, rfl, rfl, rfl, rfl⟩ (fun H locs hP hD hS => ?_)
          generalize hs_16 : r_set 17 d.2.1 d.2.2.2.2 p1 = s_16 at hP hD ⊢
          refine lv_aload_n hx hb dX0_add_85 rfl (lv_at hl 1 rfl) ?_
          refine va_get (D := D) (ci := 0) (v := .ref a3) (C := RX0) (T := TX0) (N := 5) hx hb hts hin0 hown hK hP 0 rfl rfl 2 (by decide) hf23 (fun _ h9 => h9) rfl dX0_add_86 ?_
          refine lv_aload_n hx hb dX0_add_89 rfl (lv_at hl 1 rfl) ?_
          refine va_get (D := D) (ci := 0) (v := .int d.2.2.2.2) (C := RX0) (T := TX0) (N := 5) hx hb hts hin0 hown hK hP 0 rfl rfl 4 (by decide) hf29 (fun _ h9 => h9) rfl dX0_add_90 ?_
          refine lv_iload_n hx hb dX0_add_93 rfl (lv_at hl 4 rfl) ?_
          have hPc : va_P D vwCl [(a3, .inr (2, [.ref b3])), (b3, .inl (cI, 17, .inl d.2.2.1))] H := hP.sub [5, 6] rfl
          have hDc : va_D A [(a3, .inr (2, [.ref b3])), (b3, .inl (cI, 17, .inl d.2.2.1))] := hD.sub [5, 6] (by decide) rfl
          refine z_callWv (ws' := [(h0, .inr (0, [.ref a1, .ref a2, .ref a3, .ref a4, .int d.2.2.2.2])), (a1, .inr (2, [.ref b1])), (b1, .inl (cI, 17, .inl s_15)), (a2, .inr (2, [.ref b2])), (b2, .inl (cI, 17, .inl s_16)), (a3, .inr (2, [.ref b3])), (b3, .inl (cI, 17, .inl (r_set 17 d.2.2.1 d.2.2.2.2 p2))), (a4, .inr (2, [.ref b4])), (b4, .inl (cI, 17, .inl d.2.2.2.1))]) [5, 6] [0, 1, 2, 3, 4, 7, 8] [(h0, .inr (0, [.ref a1, .ref a2, .ref a3, .ref a4, .int d.2.2.2.2])), (a1, .inr (2, [.ref b1])), (b1, .inl (cI, 17, .inl s_15)), (a2, .inr (2, [.ref b2])), (b2, .inl (cI, 17, .inl s_16)), (a4, .inr (2, [.ref b4])), (b4, .inl (cI, 17, .inl d.2.2.2.1))] [h0, a1, b1, a2, b2, a3, b3, a4, b4] (va_runV (As := [.int d.2.2.2.2, .int p2]) (rest := []) ⟨hx, hb, hml, hown, hts⟩ (c_X2_set l D cI a3 b3 17 d.2.2.1 d.2.2.2.2 p2 H.size (by decide)) (cwV 2 hts gX0_add_X2_set rfl rfl rfl qd_X2_set ⟨Nat.le_of_ble_eq_true rfl, Nat.le_of_ble_eq_true rfl⟩) ⟨z_Pw_blind, va_recv hK hP (ci := 2) (q0 := 5) rfl rfl, fun U hU hW => ⟨rfl, by rw [hU], by rw [hU]; exact hPc, va_K.moved hW.alike hK, hDc.weaken (fun _ _ _ _ => trivial)⟩⟩ rfl rfl hl.1 rfl (lv_room (Nat.le_of_ble_eq_true rfl)) dX0_add_94 ⟨Nat.le_of_ble_eq_true rfl, Nat.le_of_ble_eq_true rfl⟩) hP hD hS hA ⟨rfl, rfl, rfl, rfl, rfl, rfl, rfl⟩ (fun H locs hP hD hS => ?_)
          generalize hs_17 : r_set 17 d.2.2.1 d.2.2.2.2 p2 = s_17 at hP hD ⊢
          refine lv_aload_n hx hb dX0_add_97 rfl (lv_at hl 1 rfl) ?_
          refine va_get (D := D) (ci := 0) (v := .ref a4) (C := RX0) (T := TX0) (N := 5) hx hb hts hin0 hown hK hP 0 rfl rfl 3 (by decide) hf26 (fun _ h9 => h9) rfl dX0_add_98 ?_
          refine lv_aload_n hx hb dX0_add_101 rfl (lv_at hl 1 rfl) ?_
          refine va_get (D := D) (ci := 0) (v := .int d.2.2.2.2) (C := RX0) (T := TX0) (N := 5) hx hb hts hin0 hown hK hP 0 rfl rfl 4 (by decide) hf29 (fun _ h9 => h9) rfl dX0_add_102 ?_
          refine lv_iload hx hb dX0_add_105 (lv_at hl 5 rfl) ?_
          have hPc : va_P D vwCl [(a4, .inr (2, [.ref b4])), (b4, .inl (cI, 17, .inl d.2.2.2.1))] H := hP.sub [7, 8] rfl
          have hDc : va_D A [(a4, .inr (2, [.ref b4])), (b4, .inl (cI, 17, .inl d.2.2.2.1))] := hD.sub [7, 8] (by decide) rfl
          refine z_callWv (ws' := [(h0, .inr (0, [.ref a1, .ref a2, .ref a3, .ref a4, .int d.2.2.2.2])), (a1, .inr (2, [.ref b1])), (b1, .inl (cI, 17, .inl s_15)), (a2, .inr (2, [.ref b2])), (b2, .inl (cI, 17, .inl s_16)), (a3, .inr (2, [.ref b3])), (b3, .inl (cI, 17, .inl s_17)), (a4, .inr (2, [.ref b4])), (b4, .inl (cI, 17, .inl (r_set 17 d.2.2.2.1 d.2.2.2.2 p3)))]) [7, 8] [0, 1, 2, 3, 4, 5, 6] [(h0, .inr (0, [.ref a1, .ref a2, .ref a3, .ref a4, .int d.2.2.2.2])), (a1, .inr (2, [.ref b1])), (b1, .inl (cI, 17, .inl s_15)), (a2, .inr (2, [.ref b2])), (b2, .inl (cI, 17, .inl s_16)), (a3, .inr (2, [.ref b3])), (b3, .inl (cI, 17, .inl s_17))] [h0, a1, b1, a2, b2, a3, b3, a4, b4] (va_runV (As := [.int d.2.2.2.2, .int p3]) (rest := []) ⟨hx, hb, hml, hown, hts⟩ (c_X2_set l D cI a4 b4 17 d.2.2.2.1 d.2.2.2.2 p3 H.size (by decide)) (cwV 2 hts gX0_add_X2_set rfl rfl rfl qd_X2_set ⟨Nat.le_of_ble_eq_true rfl, Nat.le_of_ble_eq_true rfl⟩) ⟨z_Pw_blind, va_recv hK hP (ci := 2) (q0 := 7) rfl rfl, fun U hU hW => ⟨rfl, by rw [hU], by rw [hU]; exact hPc, va_K.moved hW.alike hK, hDc.weaken (fun _ _ _ _ => trivial)⟩⟩ rfl rfl hl.1 rfl (lv_room (Nat.le_of_ble_eq_true rfl)) dX0_add_107 ⟨Nat.le_of_ble_eq_true rfl, Nat.le_of_ble_eq_true rfl⟩) hP hD hS hA ⟨rfl, rfl, rfl, rfl, rfl, rfl, rfl⟩ (fun H locs hP hD hS => ?_)
          generalize hs_18 : r_set 17 d.2.2.2.1 d.2.2.2.2 p3 = s_18 at hP hD ⊢
          refine lv_aload_n hx hb dX0_add_110 rfl (lv_at hl 1 rfl) ?_
          refine lv_dup hx hb dX0_add_111 rfl ?_
          refine va_get (D := D) (ci := 0) (v := .int d.2.2.2.2) (C := RX0) (T := TX0) (N := 5) hx hb hts hin0 hown hK hP 0 rfl rfl 4 (by decide) hf29 (fun _ h9 => h9) rfl dX0_add_112 ?_
          refine lv_iconst (v := 1) hx hb dX0_add_115 (by decide) ?_
          refine lv_iadd hx hb dX0_add_116 ?_
          refine va_put (D := D) (ci := 0) (v := .int (d.2.2.2.2 + 1)) (ty := .int) (C := RX0) (T := TX0) (N := 5) hx hb hts hin0 tyX0 tyX0_ok nmX0 hown hK hP hD hS 0 rfl rfl 4 (by decide) hf29 (fun _ h9 => h9) rfl (by decide +kernel) rfl rfl (Nat.le_of_ble_eq_true rfl) dX0_add_117 (fun H locs hP hD hS => ?_)
          have hP : va_P D vwCl [(h0, .inr (0, [.ref a1, .ref a2, .ref a3, .ref a4, .int (d.2.2.2.2 + 1)])), (a1, .inr (2, [.ref b1])), (b1, .inl (cI, 17, .inl s_15)), (a2, .inr (2, [.ref b2])), (b2, .inl (cI, 17, .inl s_16)), (a3, .inr (2, [.ref b3])), (b3, .inl (cI, 17, .inl s_17)), (a4, .inr (2, [.ref b4])), (b4, .inl (cI, 17, .inl s_18))] H := hP
          have hD : va_D A [(h0, .inr (0, [.ref a1, .ref a2, .ref a3, .ref a4, .int (d.2.2.2.2 + 1)])), (a1, .inr (2, [.ref b1])), (b1, .inl (cI, 17, .inl s_15)), (a2, .inr (2, [.ref b2])), (b2, .inl (cI, 17, .inl s_16)), (a3, .inr (2, [.ref b3])), (b3, .inl (cI, 17, .inl s_17)), (a4, .inr (2, [.ref b4])), (b4, .inl (cI, 17, .inl s_18))] := hD
          have e9_0 : d.2.2.2.2 + 1 = (d_add d p0 p1 p2 p3).2.2.2.2 := by subst hs_18 hs_17 hs_16 hs_15; simp only [d_add, d_app, if_pos c_1, if_neg c_7, if_neg c_13, if_neg c_14]
          have e9_1 : s_15 = (d_add d p0 p1 p2 p3).1 := by subst hs_18 hs_17 hs_16 hs_15; simp only [d_add, d_app, if_pos c_1, if_neg c_7, if_neg c_13, if_neg c_14]
          have e9_2 : s_16 = (d_add d p0 p1 p2 p3).2.1 := by subst hs_18 hs_17 hs_16 hs_15; simp only [d_add, d_app, if_pos c_1, if_neg c_7, if_neg c_13, if_neg c_14]
          have e9_3 : s_17 = (d_add d p0 p1 p2 p3).2.2.1 := by subst hs_18 hs_17 hs_16 hs_15; simp only [d_add, d_app, if_pos c_1, if_neg c_7, if_neg c_13, if_neg c_14]
          have e9_4 : s_18 = (d_add d p0 p1 p2 p3).2.2.2.1 := by subst hs_18 hs_17 hs_16 hs_15; simp only [d_add, d_app, if_pos c_1, if_neg c_7, if_neg c_13, if_neg c_14]
          have hPz : va_P D vwCl [(h0, .inr (0, [.ref a1, .ref a2, .ref a3, .ref a4, .int ((d_add d p0 p1 p2 p3).2.2.2.2)])), (a1, .inr (2, [.ref b1])), (b1, .inl (cI, 17, .inl ((d_add d p0 p1 p2 p3).1))), (a2, .inr (2, [.ref b2])), (b2, .inl (cI, 17, .inl ((d_add d p0 p1 p2 p3).2.1))), (a3, .inr (2, [.ref b3])), (b3, .inl (cI, 17, .inl ((d_add d p0 p1 p2 p3).2.2.1))), (a4, .inr (2, [.ref b4])), (b4, .inl (cI, 17, .inl ((d_add d p0 p1 p2 p3).2.2.2.1)))] H := by rw [← e9_0, ← e9_1, ← e9_2, ← e9_3, ← e9_4]; exact hP
          exact W.vret hx hb hr (fun t ht hW => ⟨⟨rfl, by rw [ht]; exact hPz⟩, hS.F ht⟩) hS.2.2 dX0_add_120
      · skip
        refine lv_aload_n hx hb dX0_add_29 rfl (lv_at hl 1 rfl) ?_
        refine va_get (D := D) (ci := 0) (v := .ref a2) (C := RX0) (T := TX0) (N := 5) hx hb hts hin0 hown hK hP 0 rfl rfl 1 (by decide) hf20 (fun _ h9 => h9) rfl dX0_add_30 ?_
        refine lv_iload hx hb dX0_add_33 (lv_at hl 0 rfl) ?_
        refine lv_aload_n hx hb dX0_add_35 rfl (lv_at hl 1 rfl) ?_
        refine va_get (D := D) (ci := 0) (v := .ref a2) (C := RX0) (T := TX0) (N := 5) hx hb hts hin0 hown hK hP 0 rfl rfl 1 (by decide) hf20 (fun _ h9 => h9) rfl dX0_add_36 ?_
        refine lv_iload hx hb dX0_add_39 (lv_at hl 0 rfl) ?_
        refine z_callRi (va_runV (As := [.int (d.2.2.2.2 - 1)]) (rest := [.int (d.2.2.2.2 - 1), .ref a2]) ⟨hx, hb, hml, hown, hts⟩ (c_X2_at l D cI a2 b2 17 d.2.1 (d.2.2.2.2 - 1) (by decide)) (cwV 1 hts gX0_add_X2_at rfl rfl rfl qd_X2_at ⟨Nat.le_of_ble_eq_true rfl, Nat.le_of_ble_eq_true rfl⟩) ⟨z_Pr_blind, va_recv hK hP (ci := 2) (q0 := 3) rfl rfl, fun U hU hW => ⟨rfl, by rw [hU]; exact hP.sub (ws' := [(a2, .inr (2, [.ref b2])), (b2, .inl (cI, 17, .inl d.2.1))]) [3, 4] rfl, va_K.moved hW.alike hK⟩⟩ rfl rfl hl.1 rfl (lv_room (Nat.le_of_ble_eq_true rfl)) dX0_add_41 ⟨Nat.le_of_ble_eq_true rfl, Nat.le_of_ble_eq_true rfl⟩) ?_
        refine lv_iload_n hx hb dX0_add_44 rfl (lv_at hl 3 rfl) ?_
        refine lv_iadd hx hb dX0_add_45 ?_
        have hPc : va_P D vwCl [(a2, .inr (2, [.ref b2])), (b2, .inl (cI, 17, .inl d.2.1))] H := hP.sub [3, 4] rfl
        have hDc : va_D A [(a2, .inr (2, [.ref b2])), (b2, .inl (cI, 17, .inl d.2.1))] := hD.sub [3, 4] (by decide) rfl
        refine z_callWv (ws' := [(h0, .inr (0, [.ref a1, .ref a2, .ref a3, .ref a4, .int d.2.2.2.2])), (a1, .inr (2, [.ref b1])), (b1, .inl (cI, 17, .inl d.1)), (a2, .inr (2, [.ref b2])), (b2, .inl (cI, 17, .inl (r_set 17 d.2.1 (d.2.2.2.2 - 1) ((r_at 17 d.2.1 (d.2.2.2.2 - 1)) + p1)))), (a3, .inr (2, [.ref b3])), (b3, .inl (cI, 17, .inl d.2.2.1)), (a4, .inr (2, [.ref b4])), (b4, .inl (cI, 17, .inl d.2.2.2.1))]) [3, 4] [0, 1, 2, 5, 6, 7, 8] [(h0, .inr (0, [.ref a1, .ref a2, .ref a3, .ref a4, .int d.2.2.2.2])), (a1, .inr (2, [.ref b1])), (b1, .inl (cI, 17, .inl d.1)), (a3, .inr (2, [.ref b3])), (b3, .inl (cI, 17, .inl d.2.2.1)), (a4, .inr (2, [.ref b4])), (b4, .inl (cI, 17, .inl d.2.2.2.1))] [h0, a1, b1, a2, b2, a3, b3, a4, b4] (va_runV (As := [.int (d.2.2.2.2 - 1), .int ((r_at 17 d.2.1 (d.2.2.2.2 - 1)) + p1)]) (rest := []) ⟨hx, hb, hml, hown, hts⟩ (c_X2_set l D cI a2 b2 17 d.2.1 (d.2.2.2.2 - 1) ((r_at 17 d.2.1 (d.2.2.2.2 - 1)) + p1) H.size (by decide)) (cwV 2 hts gX0_add_X2_set rfl rfl rfl qd_X2_set ⟨Nat.le_of_ble_eq_true rfl, Nat.le_of_ble_eq_true rfl⟩) ⟨z_Pw_blind, va_recv hK hP (ci := 2) (q0 := 3) rfl rfl, fun U hU hW => ⟨rfl, by rw [hU], by rw [hU]; exact hPc, va_K.moved hW.alike hK, hDc.weaken (fun _ _ _ _ => trivial)⟩⟩ rfl rfl hl.1 rfl (lv_room (Nat.le_of_ble_eq_true rfl)) dX0_add_46 ⟨Nat.le_of_ble_eq_true rfl, Nat.le_of_ble_eq_true rfl⟩) hP hD hS hA ⟨rfl, rfl, rfl, rfl, rfl, rfl, rfl⟩ (fun H locs hP hD hS => ?_)
        generalize hs_19 : r_set 17 d.2.1 (d.2.2.2.2 - 1) ((r_at 17 d.2.1 (d.2.2.2.2 - 1)) + p1) = s_19 at hP hD ⊢
        refine lv_goto (tgt := 120) hx hb dX0_add_49 (by decide) ?_
        have e9_0 : d.2.2.2.2 = (d_add d p0 p1 p2 p3).2.2.2.2 := by subst hs_19; simp only [d_add, d_app, if_pos c_1, if_neg c_7, if_pos c_13]
        have e9_1 : d.1 = (d_add d p0 p1 p2 p3).1 := by subst hs_19; simp only [d_add, d_app, if_pos c_1, if_neg c_7, if_pos c_13]
        have e9_2 : s_19 = (d_add d p0 p1 p2 p3).2.1 := by subst hs_19; simp only [d_add, d_app, if_pos c_1, if_neg c_7, if_pos c_13]
        have e9_3 : d.2.2.1 = (d_add d p0 p1 p2 p3).2.2.1 := by subst hs_19; simp only [d_add, d_app, if_pos c_1, if_neg c_7, if_pos c_13]
        have e9_4 : d.2.2.2.1 = (d_add d p0 p1 p2 p3).2.2.2.1 := by subst hs_19; simp only [d_add, d_app, if_pos c_1, if_neg c_7, if_pos c_13]
        have hPz : va_P D vwCl [(h0, .inr (0, [.ref a1, .ref a2, .ref a3, .ref a4, .int ((d_add d p0 p1 p2 p3).2.2.2.2)])), (a1, .inr (2, [.ref b1])), (b1, .inl (cI, 17, .inl ((d_add d p0 p1 p2 p3).1))), (a2, .inr (2, [.ref b2])), (b2, .inl (cI, 17, .inl ((d_add d p0 p1 p2 p3).2.1))), (a3, .inr (2, [.ref b3])), (b3, .inl (cI, 17, .inl ((d_add d p0 p1 p2 p3).2.2.1))), (a4, .inr (2, [.ref b4])), (b4, .inl (cI, 17, .inl ((d_add d p0 p1 p2 p3).2.2.2.1)))] H := by rw [← e9_0, ← e9_1, ← e9_2, ← e9_3, ← e9_4]; exact hP
        exact W.vret hx hb hr (fun t ht hW => ⟨⟨rfl, by rw [ht]; exact hPz⟩, hS.F ht⟩) hS.2.2 dX0_add_120
theorem qd_X0_addEmpty : yX0_addEmpty.cls = RX0 ∧ yX0_addEmpty.cls ≠ "java/lang/invoke/MethodHandle" ∧ yX0_addEmpty.cls ≠ "java/lang/invoke/VarHandle" ∧ (parseMethodDescriptor yX0_addEmpty.desc).map (fun d => d.parameters.length) = some 1 := by decide +kernel
set_option maxHeartbeats 400000 in
set_option maxRecDepth 100000 in
/-- Directory.addEmpty -/
theorem c_X0_addEmpty (l : Launch) (D : va_G) (cI : ClassId) (h0 : Nat) (a1 : Nat) (a2 : Nat) (a3 : Nat) (a4 : Nat) (b1 : Nat) (b2 : Nat) (b3 : Nat) (b4 : Nat) (d : zD) (p0 : Int32) (sz : Nat) : Met l yX0_addEmpty wsX0_addEmpty ({ frames := 2, cells := 0, slots := 0, locals := 47 }) (z_Pw D cI [.ref h0, .int p0] [(h0, .inr (0, [.ref a1, .ref a2, .ref a3, .ref a4, .int d.2.2.2.2])), (a1, .inr (2, [.ref b1])), (b1, .inl (cI, 17, .inl d.1)), (a2, .inr (2, [.ref b2])), (b2, .inl (cI, 17, .inl d.2.1)), (a3, .inr (2, [.ref b3])), (b3, .inl (cI, 17, .inl d.2.2.1)), (a4, .inr (2, [.ref b4])), (b4, .inl (cI, 17, .inl d.2.2.2.1))] sz) (z_Wo D none [(h0, .inr (0, [.ref a1, .ref a2, .ref a3, .ref a4, .int ((d_addE d p0).2.2.2.2)])), (a1, .inr (2, [.ref b1])), (b1, .inl (cI, 17, .inl ((d_addE d p0).1))), (a2, .inr (2, [.ref b2])), (b2, .inl (cI, 17, .inl ((d_addE d p0).2.1))), (a3, .inr (2, [.ref b3])), (b3, .inl (cI, 17, .inl ((d_addE d p0).2.2.1))), (a4, .inr (2, [.ref b4])), (b4, .inl (cI, 17, .inl ((d_addE d p0).2.2.2.1)))] (va_A [(h0, .inr (0, [.ref a1, .ref a2, .ref a3, .ref a4, .int d.2.2.2.2])), (a1, .inr (2, [.ref b1])), (b1, .inl (cI, 17, .inl d.1)), (a2, .inr (2, [.ref b2])), (b2, .inl (cI, 17, .inl d.2.1)), (a3, .inr (2, [.ref b3])), (b3, .inl (cI, 17, .inl d.2.2.1)), (a4, .inr (2, [.ref b4])), (b4, .inl (cI, 17, .inl d.2.2.2.1))] sz)) 0 0 (va_A [(h0, .inr (0, [.ref a1, .ref a2, .ref a3, .ref a4, .int d.2.2.2.2])), (a1, .inr (2, [.ref b1])), (b1, .inl (cI, 17, .inl d.1)), (a2, .inr (2, [.ref b2])), (b2, .inl (cI, 17, .inl d.2.1)), (a3, .inr (2, [.ref b3])), (b3, .inl (cI, 17, .inl d.2.2.1)), (a4, .inr (2, [.ref b4])), (b4, .inl (cI, 17, .inl d.2.2.2.1))] sz) := by
  refine Met.ofW (cc := cX0_addEmpty) (maxL := 2) (ret := none) (by decide) rfl ?_
  intro p e s m args below meth c s₁ B hml hv
  obtain ⟨rfl, hsz, hP, hK, hD0⟩ := hv
  have hx := B.exec
  have hb := B.bytes
  have hr := B.returns
  have hts := atoms_spec (ws := wsX0_addEmpty) B.pre
  have hown : s.vm.findClass RX0 = some m.cls := findClass_of_methodNamed B.named
  have hlocks := B.notSynchronized
  subst hsz
  have hD := hD0.self (sz := s.heap.size)
  generalize hAe : va_A [(h0, .inr (0, [.ref a1, .ref a2, .ref a3, .ref a4, .int d.2.2.2.2])), (a1, .inr (2, [.ref b1])), (b1, .inl (cI, 17, .inl d.1)), (a2, .inr (2, [.ref b2])), (b2, .inl (cI, 17, .inl d.2.1)), (a3, .inr (2, [.ref b3])), (b3, .inl (cI, 17, .inl d.2.2.1)), (a4, .inr (2, [.ref b4])), (b4, .inl (cI, 17, .inl d.2.2.2.1))] s.heap.size = A at hD ⊢
  have hA : ∀ q : Nat, s.heap.size ≤ q → A q := fun q h => by rw [← hAe]; exact Or.inr h
  have hS : va_S A s.heap s.heap [] := va_S.rf
  have hP : va_P D vwCl [(h0, .inr (0, [.ref a1, .ref a2, .ref a3, .ref a4, .int d.2.2.2.2])), (a1, .inr (2, [.ref b1])), (b1, .inl (cI, 17, .inl d.1)), (a2, .inr (2, [.ref b2])), (b2, .inl (cI, 17, .inl d.2.1)), (a3, .inr (2, [.ref b3])), (b3, .inl (cI, 17, .inl d.2.2.1)), (a4, .inr (2, [.ref b4])), (b4, .inl (cI, 17, .inl d.2.2.2.1))] s.heap := hP
  have hl := lv_entry ([.ref h0, .int p0]) (n := 2) (Nat.le_of_ble_eq_true rfl)
  rw [lg_entry_eq]
  generalize (lg_sl ([.ref h0, .int p0]) ++ List.replicate (2 - (lg_sl ([.ref h0, .int p0])).length) Slot.unset).toArray = ls at hl ⊢
  have hl : lv_has ls 2 [(0, .ref h0), (1, .int p0)] := hl
  refine z_start hP hS (fun H locs hP hS => ?_)
  refine lv_iload_n hx hb dX0_addEmpty_0 rfl (lv_at hl 1 rfl) ?_
  refine lv_if_le (tgt := 12) hx hb dX0_addEmpty_1 (by decide) (fun c_1 => ?_) (fun c_1 => ?_)
  · skip
    have e9_0 : d.2.2.2.2 = (d_addE d p0).2.2.2.2 := by simp only [d_addE, if_pos c_1]
    have e9_1 : d.1 = (d_addE d p0).1 := by simp only [d_addE, if_pos c_1]
    have e9_2 : d.2.1 = (d_addE d p0).2.1 := by simp only [d_addE, if_pos c_1]
    have e9_3 : d.2.2.1 = (d_addE d p0).2.2.1 := by simp only [d_addE, if_pos c_1]
    have e9_4 : d.2.2.2.1 = (d_addE d p0).2.2.2.1 := by simp only [d_addE, if_pos c_1]
    have hPz : va_P D vwCl [(h0, .inr (0, [.ref a1, .ref a2, .ref a3, .ref a4, .int ((d_addE d p0).2.2.2.2)])), (a1, .inr (2, [.ref b1])), (b1, .inl (cI, 17, .inl ((d_addE d p0).1))), (a2, .inr (2, [.ref b2])), (b2, .inl (cI, 17, .inl ((d_addE d p0).2.1))), (a3, .inr (2, [.ref b3])), (b3, .inl (cI, 17, .inl ((d_addE d p0).2.2.1))), (a4, .inr (2, [.ref b4])), (b4, .inl (cI, 17, .inl ((d_addE d p0).2.2.2.1)))] H := by rw [← e9_0, ← e9_1, ← e9_2, ← e9_3, ← e9_4]; exact hP
    exact W.vret hx hb hr (fun t ht hW => ⟨⟨rfl, by rw [ht]; exact hPz⟩, hS.F ht⟩) hS.2.2 dX0_addEmpty_12
  · skip
    refine lv_aload_n hx hb dX0_addEmpty_4 rfl (lv_at hl 0 rfl) ?_
    refine lv_iconst (v := 0) hx hb dX0_addEmpty_5 (by decide) ?_
    refine lv_iload_n hx hb dX0_addEmpty_6 rfl (lv_at hl 1 rfl) ?_
    refine lv_iconst (v := 0) hx hb dX0_addEmpty_7 (by decide) ?_
    refine lv_iconst (v := -1) hx hb dX0_addEmpty_8 (by decide) ?_
    have hPc : va_P D vwCl [(h0, .inr (0, [.ref a1, .ref a2, .ref a3, .ref a4, .int d.2.2.2.2])), (a1, .inr (2, [.ref b1])), (b1, .inl (cI, 17, .inl d.1)), (a2, .inr (2, [.ref b2])), (b2, .inl (cI, 17, .inl d.2.1)), (a3, .inr (2, [.ref b3])), (b3, .inl (cI, 17, .inl d.2.2.1)), (a4, .inr (2, [.ref b4])), (b4, .inl (cI, 17, .inl d.2.2.2.1))] H := hP
    have hDc : va_D A [(h0, .inr (0, [.ref a1, .ref a2, .ref a3, .ref a4, .int d.2.2.2.2])), (a1, .inr (2, [.ref b1])), (b1, .inl (cI, 17, .inl d.1)), (a2, .inr (2, [.ref b2])), (b2, .inl (cI, 17, .inl d.2.1)), (a3, .inr (2, [.ref b3])), (b3, .inl (cI, 17, .inl d.2.2.1)), (a4, .inr (2, [.ref b4])), (b4, .inl (cI, 17, .inl d.2.2.2.1))] := hD
    refine z_callWv (ws' := [(h0, .inr (0, [.ref a1, .ref a2, .ref a3, .ref a4, .int ((d_add d 0 p0 0 (-1)).2.2.2.2)])), (a1, .inr (2, [.ref b1])), (b1, .inl (cI, 17, .inl ((d_add d 0 p0 0 (-1)).1))), (a2, .inr (2, [.ref b2])), (b2, .inl (cI, 17, .inl ((d_add d 0 p0 0 (-1)).2.1))), (a3, .inr (2, [.ref b3])), (b3, .inl (cI, 17, .inl ((d_add d 0 p0 0 (-1)).2.2.1))), (a4, .inr (2, [.ref b4])), (b4, .inl (cI, 17, .inl ((d_add d 0 p0 0 (-1)).2.2.2.1)))]) [0, 1, 2, 3, 4, 5, 6, 7, 8] [] [] [h0, a1, b1, a2, b2, a3, b3, a4, b4] (va_runV (As := [.int 0, .int p0, .int 0, .int (-1)]) (rest := []) ⟨hx, hb, hml, hown, hts⟩ (c_X0_add l D cI h0 a1 a2 a3 a4 b1 b2 b3 b4 d 0 p0 0 (-1) H.size) (cwV 4 hts gX0_addEmpty_X0_add rfl rfl rfl qd_X0_add ⟨Nat.le_of_ble_eq_true rfl, Nat.le_of_ble_eq_true rfl⟩) ⟨z_Pw_blind, va_recv hK hP (ci := 0) (q0 := 0) rfl rfl, fun U hU hW => ⟨rfl, by rw [hU], by rw [hU]; exact hPc, va_K.moved hW.alike hK, hDc.weaken (fun _ _ _ _ => trivial)⟩⟩ rfl rfl hl.1 rfl (lv_room (Nat.le_of_ble_eq_true rfl)) dX0_addEmpty_9 ⟨Nat.le_of_ble_eq_true rfl, Nat.le_of_ble_eq_true rfl⟩) hP hD hS hA ⟨rfl, rfl, rfl, rfl, rfl, rfl, rfl⟩ (fun H locs hP hD hS => ?_)
    generalize hs_2 : d_add d 0 p0 0 (-1) = s_2 at hP hD ⊢
    have e9_0 : s_2.2.2.2.2 = (d_addE d p0).2.2.2.2 := by subst hs_2; simp only [d_addE, if_neg c_1]
    have e9_1 : s_2.1 = (d_addE d p0).1 := by subst hs_2; simp only [d_addE, if_neg c_1]
    have e9_2 : s_2.2.1 = (d_addE d p0).2.1 := by subst hs_2; simp only [d_addE, if_neg c_1]
    have e9_3 : s_2.2.2.1 = (d_addE d p0).2.2.1 := by subst hs_2; simp only [d_addE, if_neg c_1]
    have e9_4 : s_2.2.2.2.1 = (d_addE d p0).2.2.2.1 := by subst hs_2; simp only [d_addE, if_neg c_1]
    have hPz : va_P D vwCl [(h0, .inr (0, [.ref a1, .ref a2, .ref a3, .ref a4, .int ((d_addE d p0).2.2.2.2)])), (a1, .inr (2, [.ref b1])), (b1, .inl (cI, 17, .inl ((d_addE d p0).1))), (a2, .inr (2, [.ref b2])), (b2, .inl (cI, 17, .inl ((d_addE d p0).2.1))), (a3, .inr (2, [.ref b3])), (b3, .inl (cI, 17, .inl ((d_addE d p0).2.2.1))), (a4, .inr (2, [.ref b4])), (b4, .inl (cI, 17, .inl ((d_addE d p0).2.2.2.1)))] H := by rw [← e9_0, ← e9_1, ← e9_2, ← e9_3, ← e9_4]; exact hP
    exact W.vret hx hb hr (fun t ht hW => ⟨⟨rfl, by rw [ht]; exact hPz⟩, hS.F ht⟩) hS.2.2 dX0_addEmpty_12
theorem qd_X0_addRange : yX0_addRange.cls = RX0 ∧ yX0_addRange.cls ≠ "java/lang/invoke/MethodHandle" ∧ yX0_addRange.cls ≠ "java/lang/invoke/VarHandle" ∧ (parseMethodDescriptor yX0_addRange.desc).map (fun d => d.parameters.length) = some 3 := by decide +kernel
set_option maxHeartbeats 400000 in
set_option maxRecDepth 100000 in
/-- Directory.addRange -/
theorem c_X0_addRange (l : Launch) (D : va_G) (cI : ClassId) (h0 : Nat) (a1 : Nat) (a2 : Nat) (a3 : Nat) (a4 : Nat) (b1 : Nat) (b2 : Nat) (b3 : Nat) (b4 : Nat) (d : zD) (oh0 : Nat) (oa1 : Nat) (oa2 : Nat) (oa3 : Nat) (oa4 : Nat) (ob1 : Nat) (ob2 : Nat) (ob3 : Nat) (ob4 : Nat) (o : zD) (p0 : Int32) (p1 : Int32) (sz : Nat) : Met l yX0_addRange wsX0_addRange ({ frames := 2, cells := 0, slots := 0, locals := 47 }) (z_Pw D cI [.ref h0, .ref oh0, .int p0, .int p1] [(h0, .inr (0, [.ref a1, .ref a2, .ref a3, .ref a4, .int d.2.2.2.2])), (a1, .inr (2, [.ref b1])), (b1, .inl (cI, 17, .inl d.1)), (a2, .inr (2, [.ref b2])), (b2, .inl (cI, 17, .inl d.2.1)), (a3, .inr (2, [.ref b3])), (b3, .inl (cI, 17, .inl d.2.2.1)), (a4, .inr (2, [.ref b4])), (b4, .inl (cI, 17, .inl d.2.2.2.1)), (oh0, .inr (0, [.ref oa1, .ref oa2, .ref oa3, .ref oa4, .int o.2.2.2.2])), (oa1, .inr (2, [.ref ob1])), (ob1, .inl (cI, 17, .inl o.1)), (oa2, .inr (2, [.ref ob2])), (ob2, .inl (cI, 17, .inl o.2.1)), (oa3, .inr (2, [.ref ob3])), (ob3, .inl (cI, 17, .inl o.2.2.1)), (oa4, .inr (2, [.ref ob4])), (ob4, .inl (cI, 17, .inl o.2.2.2.1))] sz) (z_Wo D none [(h0, .inr (0, [.ref a1, .ref a2, .ref a3, .ref a4, .int ((d_addR d o p0 p1).2.2.2.2)])), (a1, .inr (2, [.ref b1])), (b1, .inl (cI, 17, .inl ((d_addR d o p0 p1).1))), (a2, .inr (2, [.ref b2])), (b2, .inl (cI, 17, .inl ((d_addR d o p0 p1).2.1))), (a3, .inr (2, [.ref b3])), (b3, .inl (cI, 17, .inl ((d_addR d o p0 p1).2.2.1))), (a4, .inr (2, [.ref b4])), (b4, .inl (cI, 17, .inl ((d_addR d o p0 p1).2.2.2.1))), (oh0, .inr (0, [.ref oa1, .ref oa2, .ref oa3, .ref oa4, .int o.2.2.2.2])), (oa1, .inr (2, [.ref ob1])), (ob1, .inl (cI, 17, .inl o.1)), (oa2, .inr (2, [.ref ob2])), (ob2, .inl (cI, 17, .inl o.2.1)), (oa3, .inr (2, [.ref ob3])), (ob3, .inl (cI, 17, .inl o.2.2.1)), (oa4, .inr (2, [.ref ob4])), (ob4, .inl (cI, 17, .inl o.2.2.2.1))] (va_A [(h0, .inr (0, [.ref a1, .ref a2, .ref a3, .ref a4, .int d.2.2.2.2])), (a1, .inr (2, [.ref b1])), (b1, .inl (cI, 17, .inl d.1)), (a2, .inr (2, [.ref b2])), (b2, .inl (cI, 17, .inl d.2.1)), (a3, .inr (2, [.ref b3])), (b3, .inl (cI, 17, .inl d.2.2.1)), (a4, .inr (2, [.ref b4])), (b4, .inl (cI, 17, .inl d.2.2.2.1)), (oh0, .inr (0, [.ref oa1, .ref oa2, .ref oa3, .ref oa4, .int o.2.2.2.2])), (oa1, .inr (2, [.ref ob1])), (ob1, .inl (cI, 17, .inl o.1)), (oa2, .inr (2, [.ref ob2])), (ob2, .inl (cI, 17, .inl o.2.1)), (oa3, .inr (2, [.ref ob3])), (ob3, .inl (cI, 17, .inl o.2.2.1)), (oa4, .inr (2, [.ref ob4])), (ob4, .inl (cI, 17, .inl o.2.2.2.1))] sz)) 0 0 (va_A [(h0, .inr (0, [.ref a1, .ref a2, .ref a3, .ref a4, .int d.2.2.2.2])), (a1, .inr (2, [.ref b1])), (b1, .inl (cI, 17, .inl d.1)), (a2, .inr (2, [.ref b2])), (b2, .inl (cI, 17, .inl d.2.1)), (a3, .inr (2, [.ref b3])), (b3, .inl (cI, 17, .inl d.2.2.1)), (a4, .inr (2, [.ref b4])), (b4, .inl (cI, 17, .inl d.2.2.2.1)), (oh0, .inr (0, [.ref oa1, .ref oa2, .ref oa3, .ref oa4, .int o.2.2.2.2])), (oa1, .inr (2, [.ref ob1])), (ob1, .inl (cI, 17, .inl o.1)), (oa2, .inr (2, [.ref ob2])), (ob2, .inl (cI, 17, .inl o.2.1)), (oa3, .inr (2, [.ref ob3])), (ob3, .inl (cI, 17, .inl o.2.2.1)), (oa4, .inr (2, [.ref ob4])), (ob4, .inl (cI, 17, .inl o.2.2.2.1))] sz) := by
  refine Met.ofW (cc := cX0_addRange) (maxL := 5) (ret := none) (by decide) rfl ?_
  intro p e s m args below meth c s₁ B hml hv
  obtain ⟨rfl, hsz, hP, hK, hD0⟩ := hv
  have hx := B.exec
  have hb := B.bytes
  have hr := B.returns
  have hts := atoms_spec (ws := wsX0_addRange) B.pre
  have hown : s.vm.findClass RX0 = some m.cls := findClass_of_methodNamed B.named
  have hlocks := B.notSynchronized
  subst hsz
  have hD := hD0.self (sz := s.heap.size)
  generalize hAe : va_A [(h0, .inr (0, [.ref a1, .ref a2, .ref a3, .ref a4, .int d.2.2.2.2])), (a1, .inr (2, [.ref b1])), (b1, .inl (cI, 17, .inl d.1)), (a2, .inr (2, [.ref b2])), (b2, .inl (cI, 17, .inl d.2.1)), (a3, .inr (2, [.ref b3])), (b3, .inl (cI, 17, .inl d.2.2.1)), (a4, .inr (2, [.ref b4])), (b4, .inl (cI, 17, .inl d.2.2.2.1)), (oh0, .inr (0, [.ref oa1, .ref oa2, .ref oa3, .ref oa4, .int o.2.2.2.2])), (oa1, .inr (2, [.ref ob1])), (ob1, .inl (cI, 17, .inl o.1)), (oa2, .inr (2, [.ref ob2])), (ob2, .inl (cI, 17, .inl o.2.1)), (oa3, .inr (2, [.ref ob3])), (ob3, .inl (cI, 17, .inl o.2.2.1)), (oa4, .inr (2, [.ref ob4])), (ob4, .inl (cI, 17, .inl o.2.2.2.1))] s.heap.size = A at hD ⊢
  have hA : ∀ q : Nat, s.heap.size ≤ q → A q := fun q h => by rw [← hAe]; exact Or.inr h
  have hS : va_S A s.heap s.heap [] := va_S.rf
  have hP : va_P D vwCl [(h0, .inr (0, [.ref a1, .ref a2, .ref a3, .ref a4, .int d.2.2.2.2])), (a1, .inr (2, [.ref b1])), (b1, .inl (cI, 17, .inl d.1)), (a2, .inr (2, [.ref b2])), (b2, .inl (cI, 17, .inl d.2.1)), (a3, .inr (2, [.ref b3])), (b3, .inl (cI, 17, .inl d.2.2.1)), (a4, .inr (2, [.ref b4])), (b4, .inl (cI, 17, .inl d.2.2.2.1)), (oh0, .inr (0, [.ref oa1, .ref oa2, .ref oa3, .ref oa4, .int o.2.2.2.2])), (oa1, .inr (2, [.ref ob1])), (ob1, .inl (cI, 17, .inl o.1)), (oa2, .inr (2, [.ref ob2])), (ob2, .inl (cI, 17, .inl o.2.1)), (oa3, .inr (2, [.ref ob3])), (ob3, .inl (cI, 17, .inl o.2.2.1)), (oa4, .inr (2, [.ref ob4])), (ob4, .inl (cI, 17, .inl o.2.2.2.1))] s.heap := hP
  have hl := lv_entry ([.ref h0, .ref oh0, .int p0, .int p1]) (n := 5) (Nat.le_of_ble_eq_true rfl)
  rw [lg_entry_eq]
  generalize (lg_sl ([.ref h0, .ref oh0, .int p0, .int p1]) ++ List.replicate (5 - (lg_sl ([.ref h0, .ref oh0, .int p0, .int p1])).length) Slot.unset).toArray = ls at hl ⊢
  have hl : lv_has ls 5 [(0, .ref h0), (1, .ref oh0), (2, .int p0), (3, .int p1)] := hl
  refine z_start hP hS (fun H locs hP hS => ?_)
  have L3 : ∀ (k : Nat) (x4 : Int32) (d1 : zD), ((p1.toInt - x4.toInt).toNat < k) → (d_addF o (p1.toInt - x4.toInt).toNat x4 d1 = d_addR d o p0 p1) → ∀ (H : Heap) (locs : List Loc) (ls : Array Slot), va_P D vwCl [(h0, .inr (0, [.ref a1, .ref a2, .ref a3, .ref a4, .int d1.2.2.2.2])), (a1, .inr (2, [.ref b1])), (b1, .inl (cI, 17, .inl d1.1)), (a2, .inr (2, [.ref b2])), (b2, .inl (cI, 17, .inl d1.2.1)), (a3, .inr (2, [.ref b3])), (b3, .inl (cI, 17, .inl d1.2.2.1)), (a4, .inr (2, [.ref b4])), (b4, .inl (cI, 17, .inl d1.2.2.2.1)), (oh0, .inr (0, [.ref oa1, .ref oa2, .ref oa3, .ref oa4, .int o.2.2.2.2])), (oa1, .inr (2, [.ref ob1])), (ob1, .inl (cI, 17, .inl o.1)), (oa2, .inr (2, [.ref ob2])), (ob2, .inl (cI, 17, .inl o.2.1)), (oa3, .inr (2, [.ref ob3])), (ob3, .inl (cI, 17, .inl o.2.2.1)), (oa4, .inr (2, [.ref ob4])), (ob4, .inl (cI, 17, .inl o.2.2.2.1))] H → va_D A [(h0, .inr (0, [.ref a1, .ref a2, .ref a3, .ref a4, .int d1.2.2.2.2])), (a1, .inr (2, [.ref b1])), (b1, .inl (cI, 17, .inl d1.1)), (a2, .inr (2, [.ref b2])), (b2, .inl (cI, 17, .inl d1.2.1)), (a3, .inr (2, [.ref b3])), (b3, .inl (cI, 17, .inl d1.2.2.1)), (a4, .inr (2, [.ref b4])), (b4, .inl (cI, 17, .inl d1.2.2.2.1)), (oh0, .inr (0, [.ref oa1, .ref oa2, .ref oa3, .ref oa4, .int o.2.2.2.2])), (oa1, .inr (2, [.ref ob1])), (ob1, .inl (cI, 17, .inl o.1)), (oa2, .inr (2, [.ref ob2])), (ob2, .inl (cI, 17, .inl o.2.1)), (oa3, .inr (2, [.ref ob3])), (ob3, .inl (cI, 17, .inl o.2.2.1)), (oa4, .inr (2, [.ref ob4])), (ob4, .inl (cI, 17, .inl o.2.2.2.1))] → va_S A s.heap H locs → lv_has ls 5 [(0, .ref h0), (1, .ref oh0), (2, .int p0), (3, .int p1), (4, .int x4)] → W p l e ({ frames := 2, cells := 0, slots := 0, locals := 47 }) s m ([.ref h0, .ref oh0, .int p0, .int p1] : List Value).toArray below meth c H locs 0 0 (MQ below (z_Wo D none [(h0, .inr (0, [.ref a1, .ref a2, .ref a3, .ref a4, .int ((d_addR d o p0 p1).2.2.2.2)])), (a1, .inr (2, [.ref b1])), (b1, .inl (cI, 17, .inl ((d_addR d o p0 p1).1))), (a2, .inr (2, [.ref b2])), (b2, .inl (cI, 17, .inl ((d_addR d o p0 p1).2.1))), (a3, .inr (2, [.ref b3])), (b3, .inl (cI, 17, .inl ((d_addR d o p0 p1).2.2.1))), (a4, .inr (2, [.ref b4])), (b4, .inl (cI, 17, .inl ((d_addR d o p0 p1).2.2.2.1))), (oh0, .inr (0, [.ref oa1, .ref oa2, .ref oa3, .ref oa4, .int o.2.2.2.2])), (oa1, .inr (2, [.ref ob1])), (ob1, .inl (cI, 17, .inl o.1)), (oa2, .inr (2, [.ref ob2])), (ob2, .inl (cI, 17, .inl o.2.1)), (oa3, .inr (2, [.ref ob3])), (ob3, .inl (cI, 17, .inl o.2.2.1)), (oa4, .inr (2, [.ref ob4])), (ob4, .inl (cI, 17, .inl o.2.2.2.1))] A) ([.ref h0, .ref oh0, .int p0, .int p1] : List Value).toArray s 0 0 A) (F0 m 3 ls []) := by
    intro k
    induction k with
    | zero =>
      intro x4 d1 hk er
      exfalso; exact absurd hk (Nat.not_lt_zero _)
    | succ k ih =>
      intro x4 d1 hk er
      intro H locs ls hP hD hS hl
      refine lv_iload hx hb dX0_addRange_3 (lv_at hl 4 rfl) ?_
      refine lv_iload_n hx hb dX0_addRange_5 rfl (lv_at hl 3 rfl) ?_
      refine lv_icmp_ge (tgt := 43) hx hb dX0_addRange_6 (by decide) (fun c_1 => ?_) (fun c_1 => ?_)
      · skip
        have e9_0 : d1.2.2.2.2 = (d_addR d o p0 p1).2.2.2.2 := by rw [d_addF_e er c_1]
        have e9_1 : d1.1 = (d_addR d o p0 p1).1 := by rw [d_addF_e er c_1]
        have e9_2 : d1.2.1 = (d_addR d o p0 p1).2.1 := by rw [d_addF_e er c_1]
        have e9_3 : d1.2.2.1 = (d_addR d o p0 p1).2.2.1 := by rw [d_addF_e er c_1]
        have e9_4 : d1.2.2.2.1 = (d_addR d o p0 p1).2.2.2.1 := by rw [d_addF_e er c_1]
        have hPz : va_P D vwCl [(h0, .inr (0, [.ref a1, .ref a2, .ref a3, .ref a4, .int ((d_addR d o p0 p1).2.2.2.2)])), (a1, .inr (2, [.ref b1])), (b1, .inl (cI, 17, .inl ((d_addR d o p0 p1).1))), (a2, .inr (2, [.ref b2])), (b2, .inl (cI, 17, .inl ((d_addR d o p0 p1).2.1))), (a3, .inr (2, [.ref b3])), (b3, .inl (cI, 17, .inl ((d_addR d o p0 p1).2.2.1))), (a4, .inr (2, [.ref b4])), (b4, .inl (cI, 17, .inl ((d_addR d o p0 p1).2.2.2.1))), (oh0, .inr (0, [.ref oa1, .ref oa2, .ref oa3, .ref oa4, .int o.2.2.2.2])), (oa1, .inr (2, [.ref ob1])), (ob1, .inl (cI, 17, .inl o.1)), (oa2, .inr (2, [.ref ob2])), (ob2, .inl (cI, 17, .inl o.2.1)), (oa3, .inr (2, [.ref ob3])), (ob3, .inl (cI, 17, .inl o.2.2.1)), (oa4, .inr (2, [.ref ob4])), (ob4, .inl (cI, 17, .inl o.2.2.2.1))] H := by rw [← e9_0, ← e9_1, ← e9_2, ← e9_3, ← e9_4]; exact hP
        exact W.vret hx hb hr (fun t ht hW => ⟨⟨rfl, by rw [ht]; exact hPz⟩, hS.F ht⟩) hS.2.2 dX0_addRange_43
      · skip
        refine lv_aload_n hx hb dX0_addRange_9 rfl (lv_at hl 0 rfl) ?_
        refine lv_aload_n hx hb dX0_addRange_10 rfl (lv_at hl 1 rfl) ?_
        refine lv_iload hx hb dX0_addRange_11 (lv_at hl 4 rfl) ?_
        refine z_callRi (va_runV (As := [.int x4]) (rest := [.ref h0]) ⟨hx, hb, hml, hown, hts⟩ (c_X0_kindAt l D cI oh0 oa1 oa2 oa3 oa4 ob1 o.1 o.2.2.2.2 x4) (cwV 1 hts gX0_addRange_X0_kindAt rfl rfl rfl qd_X0_kindAt ⟨Nat.le_of_ble_eq_true rfl, Nat.le_of_ble_eq_true rfl⟩) ⟨z_Pr_blind, va_recv hK hP (ci := 0) (q0 := 9) rfl rfl, fun U hU hW => ⟨rfl, by rw [hU]; exact hP.sub (ws' := [(oh0, .inr (0, [.ref oa1, .ref oa2, .ref oa3, .ref oa4, .int o.2.2.2.2])), (oa1, .inr (2, [.ref ob1])), (ob1, .inl (cI, 17, .inl o.1))]) [9, 10, 11] rfl, va_K.moved hW.alike hK⟩⟩ rfl rfl hl.1 rfl (lv_room (Nat.le_of_ble_eq_true rfl)) dX0_addRange_13 ⟨Nat.le_of_ble_eq_true rfl, Nat.le_of_ble_eq_true rfl⟩) ?_
        refine lv_aload_n hx hb dX0_addRange_16 rfl (lv_at hl 1 rfl) ?_
        refine lv_iload hx hb dX0_addRange_17 (lv_at hl 4 rfl) ?_
        refine z_callRi (va_runV (As := [.int x4]) (rest := [.int (r_at 17 o.1 x4), .ref h0]) ⟨hx, hb, hml, hown, hts⟩ (c_X0_lengthAt l D cI oh0 oa1 oa2 oa3 oa4 ob2 o.2.1 o.2.2.2.2 x4) (cwV 1 hts gX0_addRange_X0_lengthAt rfl rfl rfl qd_X0_lengthAt ⟨Nat.le_of_ble_eq_true rfl, Nat.le_of_ble_eq_true rfl⟩) ⟨z_Pr_blind, va_recv hK hP (ci := 0) (q0 := 9) rfl rfl, fun U hU hW => ⟨rfl, by rw [hU]; exact hP.sub (ws' := [(oh0, .inr (0, [.ref oa1, .ref oa2, .ref oa3, .ref oa4, .int o.2.2.2.2])), (oa2, .inr (2, [.ref ob2])), (ob2, .inl (cI, 17, .inl o.2.1))]) [9, 12, 13] rfl, va_K.moved hW.alike hK⟩⟩ rfl rfl hl.1 rfl (lv_room (Nat.le_of_ble_eq_true rfl)) dX0_addRange_19 ⟨Nat.le_of_ble_eq_true rfl, Nat.le_of_ble_eq_true rfl⟩) ?_
        refine lv_aload_n hx hb dX0_addRange_22 rfl (lv_at hl 1 rfl) ?_
        refine lv_iload hx hb dX0_addRange_23 (lv_at hl 4 rfl) ?_
        refine z_callRi (va_runV (As := [.int x4]) (rest := [.int (r_at 17 o.2.1 x4), .int (r_at 17 o.1 x4), .ref h0]) ⟨hx, hb, hml, hown, hts⟩ (c_X0_nameAt l D cI oh0 oa1 oa2 oa3 oa4 ob3 o.2.2.1 o.2.2.2.2 x4) (cwV 1 hts gX0_addRange_X0_nameAt rfl rfl rfl qd_X0_nameAt ⟨Nat.le_of_ble_eq_true rfl, Nat.le_of_ble_eq_true rfl⟩) ⟨z_Pr_blind, va_recv hK hP (ci := 0) (q0 := 9) rfl rfl, fun U hU hW => ⟨rfl, by rw [hU]; exact hP.sub (ws' := [(oh0, .inr (0, [.ref oa1, .ref oa2, .ref oa3, .ref oa4, .int o.2.2.2.2])), (oa3, .inr (2, [.ref ob3])), (ob3, .inl (cI, 17, .inl o.2.2.1))]) [9, 14, 15] rfl, va_K.moved hW.alike hK⟩⟩ rfl rfl hl.1 rfl (lv_room (Nat.le_of_ble_eq_true rfl)) dX0_addRange_25 ⟨Nat.le_of_ble_eq_true rfl, Nat.le_of_ble_eq_true rfl⟩) ?_
        refine lv_aload_n hx hb dX0_addRange_28 rfl (lv_at hl 1 rfl) ?_
        refine lv_iload hx hb dX0_addRange_29 (lv_at hl 4 rfl) ?_
        refine z_callRi (va_runV (As := [.int x4]) (rest := [.int (r_at 17 o.2.2.1 x4), .int (r_at 17 o.2.1 x4), .int (r_at 17 o.1 x4), .ref h0]) ⟨hx, hb, hml, hown, hts⟩ (c_X0_handleAt l D cI oh0 oa1 oa2 oa3 oa4 ob4 o.2.2.2.1 o.2.2.2.2 x4) (cwV 1 hts gX0_addRange_X0_handleAt rfl rfl rfl qd_X0_handleAt ⟨Nat.le_of_ble_eq_true rfl, Nat.le_of_ble_eq_true rfl⟩) ⟨z_Pr_blind, va_recv hK hP (ci := 0) (q0 := 9) rfl rfl, fun U hU hW => ⟨rfl, by rw [hU]; exact hP.sub (ws' := [(oh0, .inr (0, [.ref oa1, .ref oa2, .ref oa3, .ref oa4, .int o.2.2.2.2])), (oa4, .inr (2, [.ref ob4])), (ob4, .inl (cI, 17, .inl o.2.2.2.1))]) [9, 16, 17] rfl, va_K.moved hW.alike hK⟩⟩ rfl rfl hl.1 rfl (lv_room (Nat.le_of_ble_eq_true rfl)) dX0_addRange_31 ⟨Nat.le_of_ble_eq_true rfl, Nat.le_of_ble_eq_true rfl⟩) ?_
        have hPc : va_P D vwCl [(h0, .inr (0, [.ref a1, .ref a2, .ref a3, .ref a4, .int d1.2.2.2.2])), (a1, .inr (2, [.ref b1])), (b1, .inl (cI, 17, .inl d1.1)), (a2, .inr (2, [.ref b2])), (b2, .inl (cI, 17, .inl d1.2.1)), (a3, .inr (2, [.ref b3])), (b3, .inl (cI, 17, .inl d1.2.2.1)), (a4, .inr (2, [.ref b4])), (b4, .inl (cI, 17, .inl d1.2.2.2.1))] H := hP.sub [0, 1, 2, 3, 4, 5, 6, 7, 8] rfl
        have hDc : va_D A [(h0, .inr (0, [.ref a1, .ref a2, .ref a3, .ref a4, .int d1.2.2.2.2])), (a1, .inr (2, [.ref b1])), (b1, .inl (cI, 17, .inl d1.1)), (a2, .inr (2, [.ref b2])), (b2, .inl (cI, 17, .inl d1.2.1)), (a3, .inr (2, [.ref b3])), (b3, .inl (cI, 17, .inl d1.2.2.1)), (a4, .inr (2, [.ref b4])), (b4, .inl (cI, 17, .inl d1.2.2.2.1))] := hD.sub [0, 1, 2, 3, 4, 5, 6, 7, 8] (by decide) rfl
        refine z_callWv (ws' := [(h0, .inr (0, [.ref a1, .ref a2, .ref a3, .ref a4, .int ((d_add d1 (r_at 17 o.1 x4) (r_at 17 o.2.1 x4) (r_at 17 o.2.2.1 x4) (r_at 17 o.2.2.2.1 x4)).2.2.2.2)])), (a1, .inr (2, [.ref b1])), (b1, .inl (cI, 17, .inl ((d_add d1 (r_at 17 o.1 x4) (r_at 17 o.2.1 x4) (r_at 17 o.2.2.1 x4) (r_at 17 o.2.2.2.1 x4)).1))), (a2, .inr (2, [.ref b2])), (b2, .inl (cI, 17, .inl ((d_add d1 (r_at 17 o.1 x4) (r_at 17 o.2.1 x4) (r_at 17 o.2.2.1 x4) (r_at 17 o.2.2.2.1 x4)).2.1))), (a3, .inr (2, [.ref b3])), (b3, .inl (cI, 17, .inl ((d_add d1 (r_at 17 o.1 x4) (r_at 17 o.2.1 x4) (r_at 17 o.2.2.1 x4) (r_at 17 o.2.2.2.1 x4)).2.2.1))), (a4, .inr (2, [.ref b4])), (b4, .inl (cI, 17, .inl ((d_add d1 (r_at 17 o.1 x4) (r_at 17 o.2.1 x4) (r_at 17 o.2.2.1 x4) (r_at 17 o.2.2.2.1 x4)).2.2.2.1))), (oh0, .inr (0, [.ref oa1, .ref oa2, .ref oa3, .ref oa4, .int o.2.2.2.2])), (oa1, .inr (2, [.ref ob1])), (ob1, .inl (cI, 17, .inl o.1)), (oa2, .inr (2, [.ref ob2])), (ob2, .inl (cI, 17, .inl o.2.1)), (oa3, .inr (2, [.ref ob3])), (ob3, .inl (cI, 17, .inl o.2.2.1)), (oa4, .inr (2, [.ref ob4])), (ob4, .inl (cI, 17, .inl o.2.2.2.1))]) [0, 1, 2, 3, 4, 5, 6, 7, 8] [9, 10, 11, 12, 13, 14, 15, 16, 17] [(oh0, .inr (0, [.ref oa1, .ref oa2, .ref oa3, .ref oa4, .int o.2.2.2.2])), (oa1, .inr (2, [.ref ob1])), (ob1, .inl (cI, 17, .inl o.1)), (oa2, .inr (2, [.ref ob2])), (ob2, .inl (cI, 17, .inl o.2.1)), (oa3, .inr (2, [.ref ob3])), (ob3, .inl (cI, 17, .inl o.2.2.1)), (oa4, .inr (2, [.ref ob4])), (ob4, .inl (cI, 17, .inl o.2.2.2.1))] [h0, a1, b1, a2, b2, a3, b3, a4, b4, oh0, oa1, ob1, oa2, ob2, oa3, ob3, oa4, ob4] (va_runV (As := [.int (r_at 17 o.1 x4), .int (r_at 17 o.2.1 x4), .int (r_at 17 o.2.2.1 x4), .int (r_at 17 o.2.2.2.1 x4)]) (rest := []) ⟨hx, hb, hml, hown, hts⟩ (c_X0_add l D cI h0 a1 a2 a3 a4 b1 b2 b3 b4 d1 (r_at 17 o.1 x4) (r_at 17 o.2.1 x4) (r_at 17 o.2.2.1 x4) (r_at 17 o.2.2.2.1 x4) H.size) (cwV 4 hts gX0_addRange_X0_add rfl rfl rfl qd_X0_add ⟨Nat.le_of_ble_eq_true rfl, Nat.le_of_ble_eq_true rfl⟩) ⟨z_Pw_blind, va_recv hK hP (ci := 0) (q0 := 0) rfl rfl, fun U hU hW => ⟨rfl, by rw [hU], by rw [hU]; exact hPc, va_K.moved hW.alike hK, hDc.weaken (fun _ _ _ _ => trivial)⟩⟩ rfl rfl hl.1 rfl (lv_room (Nat.le_of_ble_eq_true rfl)) dX0_addRange_34 ⟨Nat.le_of_ble_eq_true rfl, Nat.le_of_ble_eq_true rfl⟩) hP hD hS hA ⟨rfl, rfl, rfl, rfl, rfl, rfl, rfl⟩ (fun H locs hP hD hS => ?_)
        generalize hs_2 : d_add d1 (r_at 17 o.1 x4) (r_at 17 o.2.1 x4) (r_at 17 o.2.2.1 x4) (r_at 17 o.2.2.2.1 x4) = s_2 at hP hD ⊢
        refine lv_iinc (v := x4 + 1) (lv' := [(4, .int (x4 + 1)), (0, .ref h0), (1, .ref oh0), (2, .int p0), (3, .int p1)]) hx hb dX0_addRange_37 hl (k := 4) rfl (by rfl) (by decide) rfl (fun ls hl => ?_)
        refine lv_goto (tgt := 3) hx hb dX0_addRange_40 (by decide) ?_
        exact ih (x4 + 1) s_2 (by subst hs_2; exact (z_rngk c_1 hk)) (by subst hs_2; exact (d_addF_s er c_1)) H locs ls hP hD hS (lv_sub hl [1, 2, 3, 4, 0] rfl)
  refine lv_iload_n hx hb dX0_addRange_0 rfl (lv_at hl 2 rfl) ?_
  refine lv_istore (lv' := [(4, .int p0), (0, .ref h0), (1, .ref oh0), (2, .int p0), (3, .int p1)]) hx hb dX0_addRange_1 hl (by decide) rfl (fun ls hl => ?_)
  exact L3 ((p1.toInt - p0.toInt).toNat + 1) p0 d (Nat.lt_succ_self _) rfl H locs ls hP hD hS (lv_sub hl [1, 2, 3, 4, 0] rfl)
theorem qd_X0_takeOver : yX0_takeOver.cls = RX0 ∧ yX0_takeOver.cls ≠ "java/lang/invoke/MethodHandle" ∧ yX0_takeOver.cls ≠ "java/lang/invoke/VarHandle" ∧ (parseMethodDescriptor yX0_takeOver.desc).map (fun d => d.parameters.length) = some 1 := by decide +kernel
set_option maxHeartbeats 400000 in
set_option maxRecDepth 100000 in
/-- Directory.takeOver -/
theorem c_X0_takeOver (l : Launch) (D : va_G) (cI : ClassId) (h0 : Nat) (a1 : Nat) (a2 : Nat) (a3 : Nat) (a4 : Nat) (b1 : Nat) (b2 : Nat) (b3 : Nat) (b4 : Nat) (d : zD) (oh0 : Nat) (oa1 : Nat) (oa2 : Nat) (oa3 : Nat) (oa4 : Nat) (ob1 : Nat) (ob2 : Nat) (ob3 : Nat) (ob4 : Nat) (o : zD) (sz : Nat) : Met l yX0_takeOver wsX0_takeOver ({ frames := 2, cells := 0, slots := 0, locals := 43 }) (z_Pw D cI [.ref h0, .ref oh0] [(h0, .inr (0, [.ref a1, .ref a2, .ref a3, .ref a4, .int d.2.2.2.2])), (a1, .inr (2, [.ref b1])), (b1, .inl (cI, 17, .inl d.1)), (a2, .inr (2, [.ref b2])), (b2, .inl (cI, 17, .inl d.2.1)), (a3, .inr (2, [.ref b3])), (b3, .inl (cI, 17, .inl d.2.2.1)), (a4, .inr (2, [.ref b4])), (b4, .inl (cI, 17, .inl d.2.2.2.1)), (oh0, .inr (0, [.ref oa1, .ref oa2, .ref oa3, .ref oa4, .int o.2.2.2.2])), (oa1, .inr (2, [.ref ob1])), (ob1, .inl (cI, 17, .inl o.1)), (oa2, .inr (2, [.ref ob2])), (ob2, .inl (cI, 17, .inl o.2.1)), (oa3, .inr (2, [.ref ob3])), (ob3, .inl (cI, 17, .inl o.2.2.1)), (oa4, .inr (2, [.ref ob4])), (ob4, .inl (cI, 17, .inl o.2.2.2.1))] sz) (z_Wo D none [(h0, .inr (0, [.ref a1, .ref a2, .ref a3, .ref a4, .int ((d_take d o).2.2.2.2)])), (a1, .inr (2, [.ref b1])), (b1, .inl (cI, 17, .inl ((d_take d o).1))), (a2, .inr (2, [.ref b2])), (b2, .inl (cI, 17, .inl ((d_take d o).2.1))), (a3, .inr (2, [.ref b3])), (b3, .inl (cI, 17, .inl ((d_take d o).2.2.1))), (a4, .inr (2, [.ref b4])), (b4, .inl (cI, 17, .inl ((d_take d o).2.2.2.1))), (oh0, .inr (0, [.ref oa1, .ref oa2, .ref oa3, .ref oa4, .int o.2.2.2.2])), (oa1, .inr (2, [.ref ob1])), (ob1, .inl (cI, 17, .inl o.1)), (oa2, .inr (2, [.ref ob2])), (ob2, .inl (cI, 17, .inl o.2.1)), (oa3, .inr (2, [.ref ob3])), (ob3, .inl (cI, 17, .inl o.2.2.1)), (oa4, .inr (2, [.ref ob4])), (ob4, .inl (cI, 17, .inl o.2.2.2.1))] (va_A [(h0, .inr (0, [.ref a1, .ref a2, .ref a3, .ref a4, .int d.2.2.2.2])), (a1, .inr (2, [.ref b1])), (b1, .inl (cI, 17, .inl d.1)), (a2, .inr (2, [.ref b2])), (b2, .inl (cI, 17, .inl d.2.1)), (a3, .inr (2, [.ref b3])), (b3, .inl (cI, 17, .inl d.2.2.1)), (a4, .inr (2, [.ref b4])), (b4, .inl (cI, 17, .inl d.2.2.2.1)), (oh0, .inr (0, [.ref oa1, .ref oa2, .ref oa3, .ref oa4, .int o.2.2.2.2])), (oa1, .inr (2, [.ref ob1])), (ob1, .inl (cI, 17, .inl o.1)), (oa2, .inr (2, [.ref ob2])), (ob2, .inl (cI, 17, .inl o.2.1)), (oa3, .inr (2, [.ref ob3])), (ob3, .inl (cI, 17, .inl o.2.2.1)), (oa4, .inr (2, [.ref ob4])), (ob4, .inl (cI, 17, .inl o.2.2.2.1))] sz)) 0 0 (va_A [(h0, .inr (0, [.ref a1, .ref a2, .ref a3, .ref a4, .int d.2.2.2.2])), (a1, .inr (2, [.ref b1])), (b1, .inl (cI, 17, .inl d.1)), (a2, .inr (2, [.ref b2])), (b2, .inl (cI, 17, .inl d.2.1)), (a3, .inr (2, [.ref b3])), (b3, .inl (cI, 17, .inl d.2.2.1)), (a4, .inr (2, [.ref b4])), (b4, .inl (cI, 17, .inl d.2.2.2.1)), (oh0, .inr (0, [.ref oa1, .ref oa2, .ref oa3, .ref oa4, .int o.2.2.2.2])), (oa1, .inr (2, [.ref ob1])), (ob1, .inl (cI, 17, .inl o.1)), (oa2, .inr (2, [.ref ob2])), (ob2, .inl (cI, 17, .inl o.2.1)), (oa3, .inr (2, [.ref ob3])), (ob3, .inl (cI, 17, .inl o.2.2.1)), (oa4, .inr (2, [.ref ob4])), (ob4, .inl (cI, 17, .inl o.2.2.2.1))] sz) := by
  refine Met.ofW (cc := cX0_takeOver) (maxL := 2) (ret := none) (by decide) rfl ?_
  intro p e s m args below meth c s₁ B hml hv
  obtain ⟨rfl, hsz, hP, hK, hD0⟩ := hv
  have hx := B.exec
  have hb := B.bytes
  have hr := B.returns
  have hts := atoms_spec (ws := wsX0_takeOver) B.pre
  have hown : s.vm.findClass RX0 = some m.cls := findClass_of_methodNamed B.named
  have hlocks := B.notSynchronized
  subst hsz
  have hD := hD0.self (sz := s.heap.size)
  generalize hAe : va_A [(h0, .inr (0, [.ref a1, .ref a2, .ref a3, .ref a4, .int d.2.2.2.2])), (a1, .inr (2, [.ref b1])), (b1, .inl (cI, 17, .inl d.1)), (a2, .inr (2, [.ref b2])), (b2, .inl (cI, 17, .inl d.2.1)), (a3, .inr (2, [.ref b3])), (b3, .inl (cI, 17, .inl d.2.2.1)), (a4, .inr (2, [.ref b4])), (b4, .inl (cI, 17, .inl d.2.2.2.1)), (oh0, .inr (0, [.ref oa1, .ref oa2, .ref oa3, .ref oa4, .int o.2.2.2.2])), (oa1, .inr (2, [.ref ob1])), (ob1, .inl (cI, 17, .inl o.1)), (oa2, .inr (2, [.ref ob2])), (ob2, .inl (cI, 17, .inl o.2.1)), (oa3, .inr (2, [.ref ob3])), (ob3, .inl (cI, 17, .inl o.2.2.1)), (oa4, .inr (2, [.ref ob4])), (ob4, .inl (cI, 17, .inl o.2.2.2.1))] s.heap.size = A at hD ⊢
  have hA : ∀ q : Nat, s.heap.size ≤ q → A q := fun q h => by rw [← hAe]; exact Or.inr h
  have hS : va_S A s.heap s.heap [] := va_S.rf
  have hP : va_P D vwCl [(h0, .inr (0, [.ref a1, .ref a2, .ref a3, .ref a4, .int d.2.2.2.2])), (a1, .inr (2, [.ref b1])), (b1, .inl (cI, 17, .inl d.1)), (a2, .inr (2, [.ref b2])), (b2, .inl (cI, 17, .inl d.2.1)), (a3, .inr (2, [.ref b3])), (b3, .inl (cI, 17, .inl d.2.2.1)), (a4, .inr (2, [.ref b4])), (b4, .inl (cI, 17, .inl d.2.2.2.1)), (oh0, .inr (0, [.ref oa1, .ref oa2, .ref oa3, .ref oa4, .int o.2.2.2.2])), (oa1, .inr (2, [.ref ob1])), (ob1, .inl (cI, 17, .inl o.1)), (oa2, .inr (2, [.ref ob2])), (ob2, .inl (cI, 17, .inl o.2.1)), (oa3, .inr (2, [.ref ob3])), (ob3, .inl (cI, 17, .inl o.2.2.1)), (oa4, .inr (2, [.ref ob4])), (ob4, .inl (cI, 17, .inl o.2.2.2.1))] s.heap := hP
  have hl := lv_entry ([.ref h0, .ref oh0]) (n := 2) (Nat.le_of_ble_eq_true rfl)
  rw [lg_entry_eq]
  generalize (lg_sl ([.ref h0, .ref oh0]) ++ List.replicate (2 - (lg_sl ([.ref h0, .ref oh0])).length) Slot.unset).toArray = ls at hl ⊢
  have hl : lv_has ls 2 [(0, .ref h0), (1, .ref oh0)] := hl
  refine z_start hP hS (fun H locs hP hS => ?_)
  have hin0 : ∀ w ∈ wsX00, w ∈ wsX0_takeOver := by decide +kernel
  have hf16 := hts (.fieldLink RX0 16 "SqueezedVolume$Directory" "kinds" "LSqueezedVolume$Row;") (by decide +kernel)
  have hf20 := hts (.fieldLink RX0 20 "SqueezedVolume$Directory" "lengths" "LSqueezedVolume$Row;") (by decide +kernel)
  have hf23 := hts (.fieldLink RX0 23 "SqueezedVolume$Directory" "names" "LSqueezedVolume$Row;") (by decide +kernel)
  have hf26 := hts (.fieldLink RX0 26 "SqueezedVolume$Directory" "handles" "LSqueezedVolume$Row;") (by decide +kernel)
  have hf29 := hts (.fieldLink RX0 29 "SqueezedVolume$Directory" "count" "I") (by decide +kernel)
  refine lv_aload_n hx hb dX0_takeOver_0 rfl (lv_at hl 0 rfl) ?_
  refine va_get (D := D) (ci := 0) (v := .ref a1) (C := RX0) (T := TX0) (N := 5) hx hb hts hin0 hown hK hP 0 rfl rfl 0 (by decide) hf16 (fun _ h9 => h9) rfl dX0_takeOver_1 ?_
  refine lv_aload_n hx hb dX0_takeOver_4 rfl (lv_at hl 1 rfl) ?_
  refine va_get (D := D) (ci := 0) (v := .ref oa1) (C := RX0) (T := TX0) (N := 5) hx hb hts hin0 hown hK hP 9 rfl rfl 0 (by decide) hf16 (fun _ h9 => h9) rfl dX0_takeOver_5 ?_
  have hPc : va_P D vwCl [(a1, .inr (2, [.ref b1])), (b1, .inl (cI, 17, .inl d.1)), (oa1, .inr (2, [.ref ob1])), (ob1, .inl (cI, 17, .inl o.1))] H := hP.sub [1, 2, 10, 11] rfl
  have hDc : va_D A [(a1, .inr (2, [.ref b1])), (b1, .inl (cI, 17, .inl d.1)), (oa1, .inr (2, [.ref ob1])), (ob1, .inl (cI, 17, .inl o.1))] := hD.sub [1, 2, 10, 11] (by decide) rfl
  refine z_callWv (ws' := [(h0, .inr (0, [.ref a1, .ref a2, .ref a3, .ref a4, .int d.2.2.2.2])), (a1, .inr (2, [.ref b1])), (b1, .inl (cI, 17, .inl (r_take 17 17 d.1 o.1))), (a2, .inr (2, [.ref b2])), (b2, .inl (cI, 17, .inl d.2.1)), (a3, .inr (2, [.ref b3])), (b3, .inl (cI, 17, .inl d.2.2.1)), (a4, .inr (2, [.ref b4])), (b4, .inl (cI, 17, .inl d.2.2.2.1)), (oh0, .inr (0, [.ref oa1, .ref oa2, .ref oa3, .ref oa4, .int o.2.2.2.2])), (oa1, .inr (2, [.ref ob1])), (ob1, .inl (cI, 17, .inl o.1)), (oa2, .inr (2, [.ref ob2])), (ob2, .inl (cI, 17, .inl o.2.1)), (oa3, .inr (2, [.ref ob3])), (ob3, .inl (cI, 17, .inl o.2.2.1)), (oa4, .inr (2, [.ref ob4])), (ob4, .inl (cI, 17, .inl o.2.2.2.1))]) [1, 2, 10, 11] [0, 3, 4, 5, 6, 7, 8, 9, 12, 13, 14, 15, 16, 17] [(h0, .inr (0, [.ref a1, .ref a2, .ref a3, .ref a4, .int d.2.2.2.2])), (a2, .inr (2, [.ref b2])), (b2, .inl (cI, 17, .inl d.2.1)), (a3, .inr (2, [.ref b3])), (b3, .inl (cI, 17, .inl d.2.2.1)), (a4, .inr (2, [.ref b4])), (b4, .inl (cI, 17, .inl d.2.2.2.1)), (oh0, .inr (0, [.ref oa1, .ref oa2, .ref oa3, .ref oa4, .int o.2.2.2.2])), (oa2, .inr (2, [.ref ob2])), (ob2, .inl (cI, 17, .inl o.2.1)), (oa3, .inr (2, [.ref ob3])), (ob3, .inl (cI, 17, .inl o.2.2.1)), (oa4, .inr (2, [.ref ob4])), (ob4, .inl (cI, 17, .inl o.2.2.2.1))] [h0, a1, b1, a2, b2, a3, b3, a4, b4, oh0, oa1, ob1, oa2, ob2, oa3, ob3, oa4, ob4] (va_runV (As := [.ref oa1]) (rest := []) ⟨hx, hb, hml, hown, hts⟩ (c_X2_takeOver l D cI a1 b1 17 d.1 oa1 ob1 17 o.1 H.size (by decide) (by decide)) (cwV 1 hts gX0_takeOver_X2_takeOver rfl rfl rfl qd_X2_takeOver ⟨Nat.le_of_ble_eq_true rfl, Nat.le_of_ble_eq_true rfl⟩) ⟨z_Pw_blind, va_recv hK hP (ci := 2) (q0 := 1) rfl rfl, fun U hU hW => ⟨rfl, by rw [hU], by rw [hU]; exact hPc, va_K.moved hW.alike hK, hDc.weaken (fun _ _ _ _ => trivial)⟩⟩ rfl rfl hl.1 rfl (lv_room (Nat.le_of_ble_eq_true rfl)) dX0_takeOver_8 ⟨Nat.le_of_ble_eq_true rfl, Nat.le_of_ble_eq_true rfl⟩) hP hD hS hA ⟨rfl, rfl, rfl, rfl, rfl, rfl, rfl⟩ (fun H locs hP hD hS => ?_)
  generalize hs_1 : r_take 17 17 d.1 o.1 = s_1 at hP hD ⊢
  refine lv_aload_n hx hb dX0_takeOver_11 rfl (lv_at hl 0 rfl) ?_
  refine va_get (D := D) (ci := 0) (v := .ref a2) (C := RX0) (T := TX0) (N := 5) hx hb hts hin0 hown hK hP 0 rfl rfl 1 (by decide) hf20 (fun _ h9 => h9) rfl dX0_takeOver_12 ?_
  refine lv_aload_n hx hb dX0_takeOver_15 rfl (lv_at hl 1 rfl) ?_
  refine va_get (D := D) (ci := 0) (v := .ref oa2) (C := RX0) (T := TX0) (N := 5) hx hb hts hin0 hown hK hP 9 rfl rfl 1 (by decide) hf20 (fun _ h9 => h9) rfl dX0_takeOver_16 ?_
  have hPc : va_P D vwCl [(a2, .inr (2, [.ref b2])), (b2, .inl (cI, 17, .inl d.2.1)), (oa2, .inr (2, [.ref ob2])), (ob2, .inl (cI, 17, .inl o.2.1))] H := hP.sub [3, 4, 12, 13] rfl
  have hDc : va_D A [(a2, .inr (2, [.ref b2])), (b2, .inl (cI, 17, .inl d.2.1)), (oa2, .inr (2, [.ref ob2])), (ob2, .inl (cI, 17, .inl o.2.1))] := hD.sub [3, 4, 12, 13] (by decide) rfl
  refine z_callWv (ws' := [(h0, .inr (0, [.ref a1, .ref a2, .ref a3, .ref a4, .int d.2.2.2.2])), (a1, .inr (2, [.ref b1])), (b1, .inl (cI, 17, .inl s_1)), (a2, .inr (2, [.ref b2])), (b2, .inl (cI, 17, .inl (r_take 17 17 d.2.1 o.2.1))), (a3, .inr (2, [.ref b3])), (b3, .inl (cI, 17, .inl d.2.2.1)), (a4, .inr (2, [.ref b4])), (b4, .inl (cI, 17, .inl d.2.2.2.1)), (oh0, .inr (0, [.ref oa1, .ref oa2, .ref oa3, .ref oa4, .int o.2.2.2.2])), (oa1, .inr (2, [.ref ob1])), (ob1, .inl (cI, 17, .inl o.1)), (oa2, .inr (2, [.ref ob2])), (ob2, .inl (cI, 17, .inl o.2.1)), (oa3, .inr (2, [.ref ob3])), (ob3, .inl (cI, 17, .inl o.2.2.1)), (oa4, .inr (2, [.ref ob4])), (ob4, .inl (cI, 17, .inl o.2.2.2.1))]) [3, 4, 12, 13] [0, 1, 2, 5, 6, 7, 8, 9, 10, 11, 14, 15, 16, 17] [(h0, .inr (0, [.ref a1, .ref a2, .ref a3, .ref a4, .int d.2.2.2.2])), (a1, .inr (2, [.ref b1])), (b1, .inl (cI, 17, .inl s_1)), (a3, .inr (2, [.ref b3])), (b3, .inl (cI, 17, .inl d.2.2.1)), (a4, .inr (2, [.ref b4])), (b4, .inl (cI, 17, .inl d.2.2.2.1)), (oh0, .inr (0, [.ref oa1, .ref oa2, .ref oa3, .ref oa4, .int o.2.2.2.2])), (oa1, .inr (2, [.ref ob1])), (ob1, .inl (cI, 17, .inl o.1)), (oa3, .inr (2, [.ref ob3])), (ob3, .inl (cI, 17, .inl o.2.2.1)), (oa4, .inr (2, [.ref ob4])), (ob4, .inl (cI, 17, .inl o.2.2.2.1))] [h0, a1, b1, a2, b2, a3, b3, a4, b4, oh0, oa1, ob1, oa2, ob2, oa3, ob3, oa4, ob4] (va_runV (As := [.ref oa2]) (rest := []) ⟨hx, hb, hml, hown, hts⟩ (c_X2_takeOver l D cI a2 b2 17 d.2.1 oa2 ob2 17 o.2.1 H.size (by decide) (by decide)) (cwV 1 hts gX0_takeOver_X2_takeOver rfl rfl rfl qd_X2_takeOver ⟨Nat.le_of_ble_eq_true rfl, Nat.le_of_ble_eq_true rfl⟩) ⟨z_Pw_blind, va_recv hK hP (ci := 2) (q0 := 3) rfl rfl, fun U hU hW => ⟨rfl, by rw [hU], by rw [hU]; exact hPc, va_K.moved hW.alike hK, hDc.weaken (fun _ _ _ _ => trivial)⟩⟩ rfl rfl hl.1 rfl (lv_room (Nat.le_of_ble_eq_true rfl)) dX0_takeOver_19 ⟨Nat.le_of_ble_eq_true rfl, Nat.le_of_ble_eq_true rfl⟩) hP hD hS hA ⟨rfl, rfl, rfl, rfl, rfl, rfl, rfl⟩ (fun H locs hP hD hS => ?_)
  generalize hs_2 : r_take 17 17 d.2.1 o.2.1 = s_2 at hP hD ⊢
  refine lv_aload_n hx hb dX0_takeOver_22 rfl (lv_at hl 0 rfl) ?_
  refine va_get (D := D) (ci := 0) (v := .ref a3) (C := RX0) (T := TX0) (N := 5) hx hb hts hin0 hown hK hP 0 rfl rfl 2 (by decide) hf23 (fun _ h9 => h9) rfl dX0_takeOver_23 ?_
  refine lv_aload_n hx hb dX0_takeOver_26 rfl (lv_at hl 1 rfl) ?_
  refine va_get (D := D) (ci := 0) (v := .ref oa3) (C := RX0) (T := TX0) (N := 5) hx hb hts hin0 hown hK hP 9 rfl rfl 2 (by decide) hf23 (fun _ h9 => h9) rfl dX0_takeOver_27 ?_
  have hPc : va_P D vwCl [(a3, .inr (2, [.ref b3])), (b3, .inl (cI, 17, .inl d.2.2.1)), (oa3, .inr (2, [.ref ob3])), (ob3, .inl (cI, 17, .inl o.2.2.1))] H := hP.sub [5, 6, 14, 15] rfl
  have hDc : va_D A [(a3, .inr (2, [.ref b3])), (b3, .inl (cI, 17, .inl d.2.2.1)), (oa3, .inr (2, [.ref ob3])), (ob3, .inl (cI, 17, .inl o.2.2.1))] := hD.sub [5, 6, 14, 15] (by decide) rfl
  refine z_callWv (ws' := [(h0, .inr (0, [.ref a1, .ref a2, .ref a3, .ref a4, .int d.2.2.2.2])), (a1, .inr (2, [.ref b1])), (b1, .inl (cI, 17, .inl s_1)), (a2, .inr (2, [.ref b2])), (b2, .inl (cI, 17, .inl s_2)), (a3, .inr (2, [.ref b3])), (b3, .inl (cI, 17, .inl (r_take 17 17 d.2.2.1 o.2.2.1))), (a4, .inr (2, [.ref b4])), (b4, .inl (cI, 17, .inl d.2.2.2.1)), (oh0, .inr (0, [.ref oa1, .ref oa2, .ref oa3, .ref oa4, .int o.2.2.2.2])), (oa1, .inr (2, [.ref ob1])), (ob1, .inl (cI, 17, .inl o.1)), (oa2, .inr (2, [.ref ob2])), (ob2, .inl (cI, 17, .inl o.2.1)), (oa3, .inr (2, [.ref ob3])), (ob3, .inl (cI, 17, .inl o.2.2.1)), (oa4, .inr (2, [.ref ob4])), (ob4, .inl (cI, 17, .inl o.2.2.2.1))]) [5, 6, 14, 15] [0, 1, 2, 3, 4, 7, 8, 9, 10, 11, 12, 13, 16, 17] [(h0, .inr (0, [.ref a1, .ref a2, .ref a3, .ref a4, .int d.2.2.2.2])), (a1, .inr (2, [.ref b1])), (b1, .inl (cI, 17, .inl s_1)), (a2, .inr (2, [.ref b2])), (b2, .inl (cI, 17, .inl s_2)), (a4, .inr (2, [.ref b4])), (b4, .inl (cI, 17, .inl d.2.2.2.1)), (oh0, .inr (0, [.ref oa1, .ref oa2, .ref oa3, .ref oa4, .int o.2.2.2.2])), (oa1, .inr (2, [.ref ob1])), (ob1, .inl (cI, 17, .inl o.1)), (oa2, .inr (2, [.ref ob2])), (ob2, .inl (cI, 17, .inl o.2.1)), (oa4, .inr (2, [.ref ob4])), (ob4, .inl (cI, 17, .inl o.2.2.2.1))] [h0, a1, b1, a2, b2, a3, b3, a4, b4, oh0, oa1, ob1, oa2, ob2, oa3, ob3, oa4, ob4] (va_runV (As := [.ref oa3]) (rest := []) ⟨hx, hb, hml, hown, hts⟩ (c_X2_takeOver l D cI a3 b3 17 d.2.2.1 oa3 ob3 17 o.2.2.1 H.size (by decide) (by decide)) (cwV 1 hts gX0_takeOver_X2_takeOver rfl rfl rfl qd_X2_takeOver ⟨Nat.le_of_ble_eq_true rfl, Nat.le_of_ble_eq_true rfl⟩) ⟨z_Pw_blind, va_recv hK hP (ci := 2) (q0 := 5) rfl rfl, fun U hU hW => ⟨rfl, by rw [hU], by rw [hU]; exact hPc, va_K.moved hW.alike hK, hDc.weaken (fun _ _ _ _ => trivial)⟩⟩ rfl rfl hl.1 rfl (lv_room (Nat.le_of_ble_eq_true rfl)) dX0_takeOver_30 ⟨Nat.le_of_ble_eq_true rfl, Nat.le_of_ble_eq_true rfl⟩) hP hD hS hA ⟨rfl, rfl, rfl, rfl, rfl, rfl, rfl⟩ (fun H locs hP hD hS => ?_)
  generalize hs_3 : r_take 17 17 d.2.2.1 o.2.2.1 = s_3 at hP hD ⊢
  refine lv_aload_n hx hb dX0_takeOver_33 rfl (lv_at hl 0 rfl) ?_
  refine va_get (D := D) (ci := 0) (v := .ref a4) (C := RX0) (T := TX0) (N := 5) hx hb hts hin0 hown hK hP 0 rfl rfl 3 (by decide) hf26 (fun _ h9 => h9) rfl dX0_takeOver_34 ?_
  refine lv_aload_n hx hb dX0_takeOver_37 rfl (lv_at hl 1 rfl) ?_
  refine va_get (D := D) (ci := 0) (v := .ref oa4) (C := RX0) (T := TX0) (N := 5) hx hb hts hin0 hown hK hP 9 rfl rfl 3 (by decide) hf26 (fun _ h9 => h9) rfl dX0_takeOver_38 ?_
  have hPc : va_P D vwCl [(a4, .inr (2, [.ref b4])), (b4, .inl (cI, 17, .inl d.2.2.2.1)), (oa4, .inr (2, [.ref ob4])), (ob4, .inl (cI, 17, .inl o.2.2.2.1))] H := hP.sub [7, 8, 16, 17] rfl
  have hDc : va_D A [(a4, .inr (2, [.ref b4])), (b4, .inl (cI, 17, .inl d.2.2.2.1)), (oa4, .inr (2, [.ref ob4])), (ob4, .inl (cI, 17, .inl o.2.2.2.1))] := hD.sub [7, 8, 16, 17] (by decide) rfl
  refine z_callWv (ws' := [(h0, .inr (0, [.ref a1, .ref a2, .ref a3, .ref a4, .int d.2.2.2.2])), (a1, .inr (2, [.ref b1])), (b1, .inl (cI, 17, .inl s_1)), (a2, .inr (2, [.ref b2])), (b2, .inl (cI, 17, .inl s_2)), (a3, .inr (2, [.ref b3])), (b3, .inl (cI, 17, .inl s_3)), (a4, .inr (2, [.ref b4])), (b4, .inl (cI, 17, .inl (r_take 17 17 d.2.2.2.1 o.2.2.2.1))), (oh0, .inr (0, [.ref oa1, .ref oa2, .ref oa3, .ref oa4, .int o.2.2.2.2])), (oa1, .inr (2, [.ref ob1])), (ob1, .inl (cI, 17, .inl o.1)), (oa2, .inr (2, [.ref ob2])), (ob2, .inl (cI, 17, .inl o.2.1)), (oa3, .inr (2, [.ref ob3])), (ob3, .inl (cI, 17, .inl o.2.2.1)), (oa4, .inr (2, [.ref ob4])), (ob4, .inl (cI, 17, .inl o.2.2.2.1))]) [7, 8, 16, 17] [0, 1, 2, 3, 4, 5, 6, 9, 10, 11, 12, 13, 14, 15] [(h0, .inr (0, [.ref a1, .ref a2, .ref a3, .ref a4, .int d.2.2.2.2])), (a1, .inr (2, [.ref b1])), (b1, .inl (cI, 17, .inl s_1)), (a2, .inr (2, [.ref b2])), (b2, .inl (cI, 17, .inl s_2)), (a3, .inr (2, [.ref b3])), (b3, .inl (cI, 17, .inl s_3)), (oh0, .inr (0, [.ref oa1, .ref oa2, .ref oa3, .ref oa4, .int o.2.2.2.2])), (oa1, .inr (2, [.ref ob1])), (ob1, .inl (cI, 17, .inl o.1)), (oa2, .inr (2, [.ref ob2])), (ob2, .inl (cI, 17, .inl o.2.1)), (oa3, .inr (2, [.ref ob3])), (ob3, .inl (cI, 17, .inl o.2.2.1))] [h0, a1, b1, a2, b2, a3, b3, a4, b4, oh0, oa1, ob1, oa2, ob2, oa3, ob3, oa4, ob4] (va_runV (As := [.ref oa4]) (rest := []) ⟨hx, hb, hml, hown, hts⟩ (c_X2_takeOver l D cI a4 b4 17 d.2.2.2.1 oa4 ob4 17 o.2.2.2.1 H.size (by decide) (by decide)) (cwV 1 hts gX0_takeOver_X2_takeOver rfl rfl rfl qd_X2_takeOver ⟨Nat.le_of_ble_eq_true rfl, Nat.le_of_ble_eq_true rfl⟩) ⟨z_Pw_blind, va_recv hK hP (ci := 2) (q0 := 7) rfl rfl, fun U hU hW => ⟨rfl, by rw [hU], by rw [hU]; exact hPc, va_K.moved hW.alike hK, hDc.weaken (fun _ _ _ _ => trivial)⟩⟩ rfl rfl hl.1 rfl (lv_room (Nat.le_of_ble_eq_true rfl)) dX0_takeOver_41 ⟨Nat.le_of_ble_eq_true rfl, Nat.le_of_ble_eq_true rfl⟩) hP hD hS hA ⟨rfl, rfl, rfl, rfl, rfl, rfl, rfl⟩ (fun H locs hP hD hS => ?_)
  generalize hs_4 : r_take 17 17 d.2.2.2.1 o.2.2.2.1 = s_4 at hP hD ⊢
  refine lv_aload_n hx hb dX0_takeOver_44 rfl (lv_at hl 0 rfl) ?_
  refine lv_aload_n hx hb dX0_takeOver_45 rfl (lv_at hl 1 rfl) ?_
  refine va_get (D := D) (ci := 0) (v := .int o.2.2.2.2) (C := RX0) (T := TX0) (N := 5) hx hb hts hin0 hown hK hP 9 rfl rfl 4 (by decide) hf29 (fun _ h9 => h9) rfl dX0_takeOver_46 ?_
  refine va_put (D := D) (ci := 0) (v := .int o.2.2.2.2) (ty := .int) (C := RX0) (T := TX0) (N := 5) hx hb hts hin0 tyX0 tyX0_ok nmX0 hown hK hP hD hS 0 rfl rfl 4 (by decide) hf29 (fun _ h9 => h9) rfl (by decide +kernel) rfl rfl (Nat.le_of_ble_eq_true rfl) dX0_takeOver_49 (fun H locs hP hD hS => ?_)
  have hP : va_P D vwCl [(h0, .inr (0, [.ref a1, .ref a2, .ref a3, .ref a4, .int o.2.2.2.2])), (a1, .inr (2, [.ref b1])), (b1, .inl (cI, 17, .inl s_1)), (a2, .inr (2, [.ref b2])), (b2, .inl (cI, 17, .inl s_2)), (a3, .inr (2, [.ref b3])), (b3, .inl (cI, 17, .inl s_3)), (a4, .inr (2, [.ref b4])), (b4, .inl (cI, 17, .inl s_4)), (oh0, .inr (0, [.ref oa1, .ref oa2, .ref oa3, .ref oa4, .int o.2.2.2.2])), (oa1, .inr (2, [.ref ob1])), (ob1, .inl (cI, 17, .inl o.1)), (oa2, .inr (2, [.ref ob2])), (ob2, .inl (cI, 17, .inl o.2.1)), (oa3, .inr (2, [.ref ob3])), (ob3, .inl (cI, 17, .inl o.2.2.1)), (oa4, .inr (2, [.ref ob4])), (ob4, .inl (cI, 17, .inl o.2.2.2.1))] H := hP
  have hD : va_D A [(h0, .inr (0, [.ref a1, .ref a2, .ref a3, .ref a4, .int o.2.2.2.2])), (a1, .inr (2, [.ref b1])), (b1, .inl (cI, 17, .inl s_1)), (a2, .inr (2, [.ref b2])), (b2, .inl (cI, 17, .inl s_2)), (a3, .inr (2, [.ref b3])), (b3, .inl (cI, 17, .inl s_3)), (a4, .inr (2, [.ref b4])), (b4, .inl (cI, 17, .inl s_4)), (oh0, .inr (0, [.ref oa1, .ref oa2, .ref oa3, .ref oa4, .int o.2.2.2.2])), (oa1, .inr (2, [.ref ob1])), (ob1, .inl (cI, 17, .inl o.1)), (oa2, .inr (2, [.ref ob2])), (ob2, .inl (cI, 17, .inl o.2.1)), (oa3, .inr (2, [.ref ob3])), (ob3, .inl (cI, 17, .inl o.2.2.1)), (oa4, .inr (2, [.ref ob4])), (ob4, .inl (cI, 17, .inl o.2.2.2.1))] := hD
  have e9_0 : o.2.2.2.2 = (d_take d o).2.2.2.2 := by subst hs_4 hs_3 hs_2 hs_1; exact rfl
  have e9_1 : s_1 = (d_take d o).1 := by subst hs_4 hs_3 hs_2 hs_1; exact rfl
  have e9_2 : s_2 = (d_take d o).2.1 := by subst hs_4 hs_3 hs_2 hs_1; exact rfl
  have e9_3 : s_3 = (d_take d o).2.2.1 := by subst hs_4 hs_3 hs_2 hs_1; exact rfl
  have e9_4 : s_4 = (d_take d o).2.2.2.1 := by subst hs_4 hs_3 hs_2 hs_1; exact rfl
  have hPz : va_P D vwCl [(h0, .inr (0, [.ref a1, .ref a2, .ref a3, .ref a4, .int ((d_take d o).2.2.2.2)])), (a1, .inr (2, [.ref b1])), (b1, .inl (cI, 17, .inl ((d_take d o).1))), (a2, .inr (2, [.ref b2])), (b2, .inl (cI, 17, .inl ((d_take d o).2.1))), (a3, .inr (2, [.ref b3])), (b3, .inl (cI, 17, .inl ((d_take d o).2.2.1))), (a4, .inr (2, [.ref b4])), (b4, .inl (cI, 17, .inl ((d_take d o).2.2.2.1))), (oh0, .inr (0, [.ref oa1, .ref oa2, .ref oa3, .ref oa4, .int o.2.2.2.2])), (oa1, .inr (2, [.ref ob1])), (ob1, .inl (cI, 17, .inl o.1)), (oa2, .inr (2, [.ref ob2])), (ob2, .inl (cI, 17, .inl o.2.1)), (oa3, .inr (2, [.ref ob3])), (ob3, .inl (cI, 17, .inl o.2.2.1)), (oa4, .inr (2, [.ref ob4])), (ob4, .inl (cI, 17, .inl o.2.2.2.1))] H := by rw [← e9_0, ← e9_1, ← e9_2, ← e9_3, ← e9_4]; exact hP
  exact W.vret hx hb hr (fun t ht hW => ⟨⟨rfl, by rw [ht]; exact hPz⟩, hS.F ht⟩) hS.2.2 dX0_takeOver_52
