theorem z_newa {p : Program} {l : Launch} {e : Env} {R : Room} {s : State} {m : MethodId} {args : Array Value} {below : List Frame} {meth : Method} {c : Code} {H : Heap} {locs : List Loc} {cells slots : Nat} {Q : State → Prop}
    {cc : ByteArray} {pc : Nat} {ls : Array Slot} {rest : List Value} {D : va_G} {A : Nat → Prop} {ws : va_W} {H0 : Heap} {cI : ClassId} {n : Int32} {N : Nat} (hexec : p.tables.exec = Jvm.exec) (hb : c.code = cc) (harr : (Cond.arrayClass .int).before args s = true)
    (hK : va_K D vwCl [(cI, .int)] s) (hP : va_P D vwCl ws H) (hD : va_D A ws) (hS : va_S A H0 H locs) (hA : ∀ q, H0.size ≤ q → A q) (hn : ¬ n < 0) (hN : n.toNatClampNeg = N) (hbytes : N * 4 ≤ 536870912) (hcells : cells + 1 ≤ R.cells) (hslots : slots + N ≤ R.slots) (hdg : decode cc pc = .ok (.newarray .int, 2))
    (kk : ∀ (q : Nat) (H1 : Heap), va_P D vwCl (ws ++ [(q, .inl (cI, N, .inl (fun _ => 0)))]) H1 → va_D A (ws ++ [(q, .inl (cI, N, .inl (fun _ => 0)))]) → va_S A H0 H1 locs →
      W p l e R s m args below meth c H1 locs (cells + 1) (slots + N) Q (F0 m (pc + 2) ls (.ref q :: rest))) : W p l e R s m args below meth c H locs cells slots Q (F0 m pc ls (.int n :: rest)) := by
  refine va_newa (atype := .int) (ty := .int) (N' := N) (a0 := (N, .inl (fun _ => 0))) hexec hb harr rfl hK hP hD hS hA (fun cA => rfl) hn hN hbytes hcells hslots hdg (fun q cA H1 hK1 hP1 hD1 hS1 => ?_)
  have h0 := (hK1.2 0 (cI, .int) rfl).2
  have h1 := (hK1.2 1 (cA, .int) rfl).2
  have e9 : cA = cI := Option.some.inj (h1.symm.trans h0)
  subst e9
  exact kk q H1 hP1 hD1 hS1
def z_No {S : Type} (D : va_G) (mk : S → va_W) (A : Nat → Prop) : Array Value → State → Outcome → State → Prop := fun _ st o t => (∃ u : S, o = .returned none ∧ va_P D vwCl (mk u) t.heap ∧ va_D A (mk u)) ∧ va_F A st t
theorem z_callN {p : Program} {l : Launch} {e : Env} {R : Room} {s : State} {m : MethodId} {args : Array Value} {below : List Frame} {meth : Method} {c : Code} {H : Heap} {locs : List Loc} {cells slots mc ms : Nat} {Q : State → Prop}
    {pc : Nat} {ls : Array Slot} {rest st0 : List Value} {a : Array Value} {D : va_G} {A0 : Nat → Prop} {H0 : Heap} {ws wc wr : va_W} {S : Type} {mk : S → va_W} (isC isR : List Nat) (hr : va_Run p l e R s m args below meth c H locs cells slots mc ms (F0 m pc ls st0) rest (z_No D mk (va_A wc H.size) a) (va_A wc H.size))
    (hP : va_P D vwCl ws H) (hD : va_D A0 ws) (hS : va_S A0 H0 H locs) (hA : ∀ q : Nat, H0.size ≤ q → A0 q) (hC : isC.map (fun i => ws[i]?) = wc.map some) (hR : isR.map (fun i => ws[i]?) = wr.map some) (hn : va_nd isR = true) (hdis : ∀ i ∈ isR, i ∉ isC)
    (kk : ∀ (u : S) (H1 : Heap) (locs1 : List Loc), va_P D vwCl (wr ++ mk u) H1 → va_D A0 (wr ++ mk u) → va_S A0 H0 H1 locs1 → W p l e R s m args below meth c H1 locs1 (cells + mc) (slots + ms) Q (F0 m (pc + 3) ls rest)) : W p l e R s m args below meth c H locs cells slots Q (F0 m pc ls st0) := by
  intro T hT X
  obtain ⟨v', st₀, t, T', L, h0, X', hL, e1, e2, ⟨⟨u, hv, hb, hd⟩, hF⟩, st⟩ := hr T hT X
  cases hv
  have hf := va_free hD hS hA isC hC
  obtain ⟨-, k2, k3⟩ := vx_keep h0 e1 hS (fun q _ h => hf q h) hf hL hF
  obtain ⟨hP1, hD1⟩ := va_join hP hD isC isR hC hR hn hdis k2 hf (by rw [e1]; exact hb) hd
  obtain ⟨t2, a1, b1⟩ := kk u T'.heap (locs ++ L) hP1 hD1 k3 T' rfl X'
  exact ⟨t2, st t2 a1, b1⟩
def pw_new : zP := (true, -1, 0)
def d_new : zD := (fun _ => 0, fun _ => 0, fun _ => 0, fun _ => 0, 0)

theorem qd_X1_init : yX1_init.cls ≠ "java/lang/invoke/MethodHandle" ∧ yX1_init.cls ≠ "java/lang/invoke/VarHandle" ∧ (parseMethodDescriptor yX1_init.desc).map (fun d => d.parameters.length) = some 0 := by decide +kernel
set_option maxHeartbeats 1000000 in
set_option maxRecDepth 100000 in
theorem c_X1_init (l : Launch) (D : va_G) (cI : ClassId) (h0 : Nat) (sz : Nat) : Met l yX1_init wsX1_init ({ frames := 1, cells := 0, slots := 0, locals := 12 }) (z_Pw D cI [.ref h0] [(h0, .inr (1, [.int (zb false), .int 0, .int 0]))] sz) (z_No D (fun _ : Unit => [(h0, .inr (1, [.int (zb pw_new.1), .int pw_new.2.1, .int pw_new.2.2]))]) (va_A [(h0, .inr (1, [.int (zb false), .int 0, .int 0]))] sz)) 0 0 (va_A [(h0, .inr (1, [.int (zb false), .int 0, .int 0]))] sz) := by
  refine Met.ofW (cc := cX1_init) (maxL := 1) (ret := none) (by decide) rfl ?_
  intro p e s m args below meth c s₁ B hml hv
  obtain ⟨rfl, hsz, hP, hK, hD0⟩ := hv
  have hx := B.exec
  have hb := B.bytes
  have hr := B.returns
  have hts := atoms_spec (ws := wsX1_init) B.pre
  have hown : s.vm.findClass RX1 = some m.cls := findClass_of_methodNamed B.named
  have hlocks := B.notSynchronized
  have hin : meth.name = "<init>" := (name_of_methodNamed B.named B.method).1
  subst hsz
  have hD := hD0.self (sz := s.heap.size)
  generalize hAe : va_A [(h0, .inr (1, [.int (zb false), .int 0, .int 0]))] s.heap.size = A at hD ⊢
  have hA : ∀ q : Nat, s.heap.size ≤ q → A q := fun q h => by rw [← hAe]; exact Or.inr h
  have hS : va_S A s.heap s.heap [] := va_S.rf
  have hP : va_P D vwCl [(h0, .inr (1, [.int (zb false), .int 0, .int 0]))] s.heap := hP
  have hl := lv_entry ([.ref h0]) (n := 1) (Nat.le_of_ble_eq_true rfl)
  rw [lg_entry_eq]
  generalize (lg_sl ([.ref h0]) ++ List.replicate (1 - (lg_sl ([.ref h0])).length) Slot.unset).toArray = ls at hl ⊢
  have hl : lv_has ls 1 [(0, .ref h0)] := hl
  refine z_start hP hS (fun H locs hP hS => ?_)
  have hin1 : ∀ w ∈ wsX10, w ∈ wsX1_init := by decide +kernel
  have hf9 := hts (.fieldLink RX1 9 "SqueezedVolume$Power" "up" "Z") (by decide +kernel)
  have hf15 := hts (.fieldLink RX1 15 "SqueezedVolume$Power" "left" "I") (by decide +kernel)
  have hf19 := hts (.fieldLink RX1 19 "SqueezedVolume$Power" "count" "I") (by decide +kernel)
  refine lv_aload_n hx hb dX1_init_0 rfl (lv_at hl 0 rfl) ?_
  refine W.objInit hx hb hown (hts (.methodLink RX1 3 objectInit) (by decide +kernel)) (hts (.instanceMethod objectInit) (by decide +kernel)) (hts (.code objectInit ⟨#[0xb1]⟩ 1 none) (by decide +kernel)) rfl (by rw [hml]; exact hl.1) rfl dX1_init_1 (Nat.le_of_ble_eq_true rfl) (Nat.le_of_ble_eq_true rfl) ?_
  refine W.eq (g2 := F0 m 4 ls []) rfl ?_
  refine lv_aload_n hx hb dX1_init_4 rfl (lv_at hl 0 rfl) ?_
  refine lv_iconst (v := 1) hx hb dX1_init_5 (by decide) ?_
  refine va_put (D := D) (ci := 1) (v := .int (zb true)) (ty := .boolean) (C := RX1) (T := TX1) (N := 3) hx hb hts hin1 tyX1 tyX1_ok nmX1 hown hK hP hD hS 0 rfl rfl 0 (by decide) hf9 (fun _ h9 => h9) rfl (by decide +kernel) (z_nb _) (z_fb _) (Nat.le_of_ble_eq_true rfl) dX1_init_6 (fun H locs hP hD hS => ?_)
  have hP : va_P D vwCl [(h0, .inr (1, [.int (zb true), .int 0, .int 0]))] H := hP
  have hD : va_D A [(h0, .inr (1, [.int (zb true), .int 0, .int 0]))] := hD
  refine lv_aload_n hx hb dX1_init_9 rfl (lv_at hl 0 rfl) ?_
  refine lv_iconst (v := -1) hx hb dX1_init_10 (by decide) ?_
  refine va_put (D := D) (ci := 1) (v := .int (-1)) (ty := .int) (C := RX1) (T := TX1) (N := 3) hx hb hts hin1 tyX1 tyX1_ok nmX1 hown hK hP hD hS 0 rfl rfl 1 (by decide) hf15 (fun _ h9 => h9) rfl (by decide +kernel) rfl rfl (Nat.le_of_ble_eq_true rfl) dX1_init_11 (fun H locs hP hD hS => ?_)
  have hP : va_P D vwCl [(h0, .inr (1, [.int (zb true), .int (-1), .int 0]))] H := hP
  have hD : va_D A [(h0, .inr (1, [.int (zb true), .int (-1), .int 0]))] := hD
  refine lv_aload_n hx hb dX1_init_14 rfl (lv_at hl 0 rfl) ?_
  refine lv_iconst (v := 0) hx hb dX1_init_15 (by decide) ?_
  refine va_put (D := D) (ci := 1) (v := .int 0) (ty := .int) (C := RX1) (T := TX1) (N := 3) hx hb hts hin1 tyX1 tyX1_ok nmX1 hown hK hP hD hS 0 rfl rfl 2 (by decide) hf19 (fun _ h9 => h9) rfl (by decide +kernel) rfl rfl (Nat.le_of_ble_eq_true rfl) dX1_init_16 (fun H locs hP hD hS => ?_)
  have hP : va_P D vwCl [(h0, .inr (1, [.int (zb true), .int (-1), .int 0]))] H := hP
  have hD : va_D A [(h0, .inr (1, [.int (zb true), .int (-1), .int 0]))] := hD
  have hP9 : va_P D vwCl [(h0, .inr (1, [.int (zb pw_new.1), .int pw_new.2.1, .int pw_new.2.2]))] H := hP.sub [0] rfl
  have hD9 : va_D A [(h0, .inr (1, [.int (zb pw_new.1), .int pw_new.2.1, .int pw_new.2.2]))] := hD.sub [0] (by decide) rfl
  exact W.vret hx hb hr (fun t ht hW => ⟨⟨(), rfl, by rw [ht]; exact hP9, hD9⟩, hS.F ht⟩) hS.2.2 dX1_init_19
theorem qd_X2_init : yX2_init.cls ≠ "java/lang/invoke/MethodHandle" ∧ yX2_init.cls ≠ "java/lang/invoke/VarHandle" ∧ (parseMethodDescriptor yX2_init.desc).map (fun d => d.parameters.length) = some 1 := by decide +kernel
set_option maxHeartbeats 1000000 in
set_option maxRecDepth 100000 in
theorem c_X2_init17 (l : Launch) (D : va_G) (cI : ClassId) (h0 : Nat) (p0 : Int32) (sz : Nat) (hp : p0 = 17) : Met l yX2_init wsX2_init ({ frames := 1, cells := 1, slots := 17, locals := 21 }) (z_Pw D cI [.ref h0, .int p0] [(h0, .inr (2, [.null]))] sz) (z_No D (fun q1 : Nat => [(h0, .inr (2, [.ref q1])), (q1, .inl (cI, 17, .inl (fun _ => 0)))]) (va_A [(h0, .inr (2, [.null]))] sz)) 1 17 (va_A [(h0, .inr (2, [.null]))] sz) := by
  refine Met.ofW (cc := cX2_init) (maxL := 2) (ret := none) (by decide) rfl ?_
  intro p e s m args below meth c s₁ B hml hv
  obtain ⟨rfl, hsz, hP, hK, hD0⟩ := hv
  have hx := B.exec
  have hb := B.bytes
  have hr := B.returns
  have hts := atoms_spec (ws := wsX2_init) B.pre
  have hown : s.vm.findClass RX2 = some m.cls := findClass_of_methodNamed B.named
  have hlocks := B.notSynchronized
  have hin : meth.name = "<init>" := (name_of_methodNamed B.named B.method).1
  subst hsz
  have hD := hD0.self (sz := s.heap.size)
  generalize hAe : va_A [(h0, .inr (2, [.null]))] s.heap.size = A at hD ⊢
  have hA : ∀ q : Nat, s.heap.size ≤ q → A q := fun q h => by rw [← hAe]; exact Or.inr h
  have hS : va_S A s.heap s.heap [] := va_S.rf
  have hP : va_P D vwCl [(h0, .inr (2, [.null]))] s.heap := hP
  have hl := lv_entry ([.ref h0, .int p0]) (n := 2) (Nat.le_of_ble_eq_true rfl)
  rw [lg_entry_eq]
  generalize (lg_sl ([.ref h0, .int p0]) ++ List.replicate (2 - (lg_sl ([.ref h0, .int p0])).length) Slot.unset).toArray = ls at hl ⊢
  have hl : lv_has ls 2 [(0, .ref h0), (1, .int p0)] := hl
  refine z_start hP hS (fun H locs hP hS => ?_)
  have hm7 := hts (Cond.methodLink RX2 7 Lib.Math.max.name) (by decide +kernel)
  have hms_max := hts (Cond.static Lib.Math.max.name) (by decide +kernel)
  have hmi := hts (Cond.initialized "java/lang/Math") (by decide +kernel)
  have hmc_max := hts (Cond.code Lib.Math.max.name Lib.Math.max.code 2 (some .int)) (by decide +kernel)
  have hin2 : ∀ w ∈ wsX20, w ∈ wsX2_init := by decide +kernel
  have hf13 := hts (.fieldLink RX2 13 "SqueezedVolume$Row" "cells" "[I") (by decide +kernel)
  refine lv_aload_n hx hb dX2_init_0 rfl (lv_at hl 0 rfl) ?_
  refine W.objInit hx hb hown (hts (.methodLink RX2 1 objectInit) (by decide +kernel)) (hts (.instanceMethod objectInit) (by decide +kernel)) (hts (.code objectInit ⟨#[0xb1]⟩ 1 none) (by decide +kernel)) rfl (by rw [hml]; exact hl.1) rfl dX2_init_1 (Nat.le_of_ble_eq_true rfl) (Nat.le_of_ble_eq_true rfl) ?_
  refine W.eq (g2 := F0 m 4 ls []) rfl ?_
  refine lv_aload_n hx hb dX2_init_4 rfl (lv_at hl 0 rfl) ?_
  refine lv_iconst (v := 0) hx hb dX2_init_5 (by decide) ?_
  refine lv_iload_n hx hb dX2_init_6 rfl (lv_at hl 1 rfl) ?_
  refine va_mmax hx hb (by rw [hml]; exact hl.1.symm) hown hm7 hms_max hmi hmc_max (Nat.le_of_ble_eq_true rfl) (Nat.le_of_ble_eq_true rfl) (Nat.le_of_ble_eq_true rfl) (Nat.le_of_ble_eq_true rfl) dX2_init_7 ?_
  refine W.eq (g2 := F0 m 10 ls [.int 17, .ref h0]) (by rw [hp, if_pos (by decide)]) ?_
  refine z_newa (N := 17) hx hb (hts (.arrayClass .int) (by decide +kernel)) hK hP hD hS hA (by decide) (by decide) (by decide) (Nat.le_of_ble_eq_true rfl) (Nat.le_of_ble_eq_true rfl) dX2_init_10 (fun b_1 H hP hD hS => ?_)
  have hP : va_P D vwCl [(h0, .inr (2, [.null])), (b_1, .inl (cI, 17, .inl (fun _ => 0)))] H := hP
  have hD : va_D A [(h0, .inr (2, [.null])), (b_1, .inl (cI, 17, .inl (fun _ => 0)))] := hD
  refine va_putF (D := D) (ci := 2) (v := .ref b_1) (ty := .array .int) (C := RX2) (T := TX2) (N := 1) hx hb hts hin2 tyX2 tyX2_ok nmX2 hown hK hP hD hS 0 rfl rfl 0 (by decide) hf13 (fun _ h9 => h9) rfl hin rfl (by decide +kernel) rfl rfl (Nat.le_of_ble_eq_true rfl) dX2_init_12 (fun H locs hP hD hS => ?_)
  have hP : va_P D vwCl [(h0, .inr (2, [.ref b_1])), (b_1, .inl (cI, 17, .inl (fun _ => 0)))] H := hP
  have hD : va_D A [(h0, .inr (2, [.ref b_1])), (b_1, .inl (cI, 17, .inl (fun _ => 0)))] := hD
  have hP9 : va_P D vwCl [(h0, .inr (2, [.ref b_1])), (b_1, .inl (cI, 17, .inl (fun _ => 0)))] H := hP.sub [0, 1] rfl
  have hD9 : va_D A [(h0, .inr (2, [.ref b_1])), (b_1, .inl (cI, 17, .inl (fun _ => 0)))] := hD.sub [0, 1] (by decide) rfl
  exact W.vret hx hb hr (fun t ht hW => ⟨⟨b_1, rfl, by rw [ht]; exact hP9, hD9⟩, hS.F ht⟩) hS.2.2 dX2_init_15
set_option maxHeartbeats 1000000 in
set_option maxRecDepth 100000 in
theorem c_X2_init48 (l : Launch) (D : va_G) (cI : ClassId) (h0 : Nat) (p0 : Int32) (sz : Nat) (hp : p0 = 48) : Met l yX2_init wsX2_init ({ frames := 1, cells := 1, slots := 48, locals := 21 }) (z_Pw D cI [.ref h0, .int p0] [(h0, .inr (2, [.null]))] sz) (z_No D (fun q1 : Nat => [(h0, .inr (2, [.ref q1])), (q1, .inl (cI, 48, .inl (fun _ => 0)))]) (va_A [(h0, .inr (2, [.null]))] sz)) 1 48 (va_A [(h0, .inr (2, [.null]))] sz) := by
  refine Met.ofW (cc := cX2_init) (maxL := 2) (ret := none) (by decide) rfl ?_
  intro p e s m args below meth c s₁ B hml hv
  obtain ⟨rfl, hsz, hP, hK, hD0⟩ := hv
  have hx := B.exec
  have hb := B.bytes
  have hr := B.returns
  have hts := atoms_spec (ws := wsX2_init) B.pre
  have hown : s.vm.findClass RX2 = some m.cls := findClass_of_methodNamed B.named
  have hlocks := B.notSynchronized
  have hin : meth.name = "<init>" := (name_of_methodNamed B.named B.method).1
  subst hsz
  have hD := hD0.self (sz := s.heap.size)
  generalize hAe : va_A [(h0, .inr (2, [.null]))] s.heap.size = A at hD ⊢
  have hA : ∀ q : Nat, s.heap.size ≤ q → A q := fun q h => by rw [← hAe]; exact Or.inr h
  have hS : va_S A s.heap s.heap [] := va_S.rf
  have hP : va_P D vwCl [(h0, .inr (2, [.null]))] s.heap := hP
  have hl := lv_entry ([.ref h0, .int p0]) (n := 2) (Nat.le_of_ble_eq_true rfl)
  rw [lg_entry_eq]
  generalize (lg_sl ([.ref h0, .int p0]) ++ List.replicate (2 - (lg_sl ([.ref h0, .int p0])).length) Slot.unset).toArray = ls at hl ⊢
  have hl : lv_has ls 2 [(0, .ref h0), (1, .int p0)] := hl
  refine z_start hP hS (fun H locs hP hS => ?_)
  have hm7 := hts (Cond.methodLink RX2 7 Lib.Math.max.name) (by decide +kernel)
  have hms_max := hts (Cond.static Lib.Math.max.name) (by decide +kernel)
  have hmi := hts (Cond.initialized "java/lang/Math") (by decide +kernel)
  have hmc_max := hts (Cond.code Lib.Math.max.name Lib.Math.max.code 2 (some .int)) (by decide +kernel)
  have hin2 : ∀ w ∈ wsX20, w ∈ wsX2_init := by decide +kernel
  have hf13 := hts (.fieldLink RX2 13 "SqueezedVolume$Row" "cells" "[I") (by decide +kernel)
  refine lv_aload_n hx hb dX2_init_0 rfl (lv_at hl 0 rfl) ?_
  refine W.objInit hx hb hown (hts (.methodLink RX2 1 objectInit) (by decide +kernel)) (hts (.instanceMethod objectInit) (by decide +kernel)) (hts (.code objectInit ⟨#[0xb1]⟩ 1 none) (by decide +kernel)) rfl (by rw [hml]; exact hl.1) rfl dX2_init_1 (Nat.le_of_ble_eq_true rfl) (Nat.le_of_ble_eq_true rfl) ?_
  refine W.eq (g2 := F0 m 4 ls []) rfl ?_
  refine lv_aload_n hx hb dX2_init_4 rfl (lv_at hl 0 rfl) ?_
  refine lv_iconst (v := 0) hx hb dX2_init_5 (by decide) ?_
  refine lv_iload_n hx hb dX2_init_6 rfl (lv_at hl 1 rfl) ?_
  refine va_mmax hx hb (by rw [hml]; exact hl.1.symm) hown hm7 hms_max hmi hmc_max (Nat.le_of_ble_eq_true rfl) (Nat.le_of_ble_eq_true rfl) (Nat.le_of_ble_eq_true rfl) (Nat.le_of_ble_eq_true rfl) dX2_init_7 ?_
  refine W.eq (g2 := F0 m 10 ls [.int 48, .ref h0]) (by rw [hp, if_pos (by decide)]) ?_
  refine z_newa (N := 48) hx hb (hts (.arrayClass .int) (by decide +kernel)) hK hP hD hS hA (by decide) (by decide) (by decide) (Nat.le_of_ble_eq_true rfl) (Nat.le_of_ble_eq_true rfl) dX2_init_10 (fun b_1 H hP hD hS => ?_)
  have hP : va_P D vwCl [(h0, .inr (2, [.null])), (b_1, .inl (cI, 48, .inl (fun _ => 0)))] H := hP
  have hD : va_D A [(h0, .inr (2, [.null])), (b_1, .inl (cI, 48, .inl (fun _ => 0)))] := hD
  refine va_putF (D := D) (ci := 2) (v := .ref b_1) (ty := .array .int) (C := RX2) (T := TX2) (N := 1) hx hb hts hin2 tyX2 tyX2_ok nmX2 hown hK hP hD hS 0 rfl rfl 0 (by decide) hf13 (fun _ h9 => h9) rfl hin rfl (by decide +kernel) rfl rfl (Nat.le_of_ble_eq_true rfl) dX2_init_12 (fun H locs hP hD hS => ?_)
  have hP : va_P D vwCl [(h0, .inr (2, [.ref b_1])), (b_1, .inl (cI, 48, .inl (fun _ => 0)))] H := hP
  have hD : va_D A [(h0, .inr (2, [.ref b_1])), (b_1, .inl (cI, 48, .inl (fun _ => 0)))] := hD
  have hP9 : va_P D vwCl [(h0, .inr (2, [.ref b_1])), (b_1, .inl (cI, 48, .inl (fun _ => 0)))] H := hP.sub [0, 1] rfl
  have hD9 : va_D A [(h0, .inr (2, [.ref b_1])), (b_1, .inl (cI, 48, .inl (fun _ => 0)))] := hD.sub [0, 1] (by decide) rfl
  exact W.vret hx hb hr (fun t ht hW => ⟨⟨b_1, rfl, by rw [ht]; exact hP9, hD9⟩, hS.F ht⟩) hS.2.2 dX2_init_15
theorem qd_X0_init : yX0_init.cls ≠ "java/lang/invoke/MethodHandle" ∧ yX0_init.cls ≠ "java/lang/invoke/VarHandle" ∧ (parseMethodDescriptor yX0_init.desc).map (fun d => d.parameters.length) = some 0 := by decide +kernel
set_option maxHeartbeats 1000000 in
set_option maxRecDepth 100000 in
theorem c_X0_init (l : Launch) (D : va_G) (cI : ClassId) (h0 : Nat) (sz : Nat) : Met l yX0_init wsX0_init ({ frames := 2, cells := 8, slots := 72, locals := 42 }) (z_Pw D cI [.ref h0] [(h0, .inr (0, [.null, .null, .null, .null, .int 0]))] sz) (z_No D (fun q9 : Nat × Nat × Nat × Nat × Nat × Nat × Nat × Nat => [(h0, .inr (0, [.ref q9.1, .ref q9.2.2.1, .ref q9.2.2.2.2.1, .ref q9.2.2.2.2.2.2.1, .int d_new.2.2.2.2])), (q9.1, .inr (2, [.ref q9.2.1])), (q9.2.1, .inl (cI, 17, .inl d_new.1)), (q9.2.2.1, .inr (2, [.ref q9.2.2.2.1])), (q9.2.2.2.1, .inl (cI, 17, .inl d_new.2.1)), (q9.2.2.2.2.1, .inr (2, [.ref q9.2.2.2.2.2.1])), (q9.2.2.2.2.2.1, .inl (cI, 17, .inl d_new.2.2.1)), (q9.2.2.2.2.2.2.1, .inr (2, [.ref q9.2.2.2.2.2.2.2])), (q9.2.2.2.2.2.2.2, .inl (cI, 17, .inl d_new.2.2.2.1))]) (va_A [(h0, .inr (0, [.null, .null, .null, .null, .int 0]))] sz)) 8 72 (va_A [(h0, .inr (0, [.null, .null, .null, .null, .int 0]))] sz) := by
  refine Met.ofW (cc := cX0_init) (maxL := 1) (ret := none) (by decide) rfl ?_
  intro p e s m args below meth c s₁ B hml hv
  obtain ⟨rfl, hsz, hP, hK, hD0⟩ := hv
  have hx := B.exec
  have hb := B.bytes
  have hr := B.returns
  have hts := atoms_spec (ws := wsX0_init) B.pre
  have hown : s.vm.findClass RX0 = some m.cls := findClass_of_methodNamed B.named
  have hlocks := B.notSynchronized
  have hin : meth.name = "<init>" := (name_of_methodNamed B.named B.method).1
  subst hsz
  have hD := hD0.self (sz := s.heap.size)
  generalize hAe : va_A [(h0, .inr (0, [.null, .null, .null, .null, .int 0]))] s.heap.size = A at hD ⊢
  have hA : ∀ q : Nat, s.heap.size ≤ q → A q := fun q h => by rw [← hAe]; exact Or.inr h
  have hS : va_S A s.heap s.heap [] := va_S.rf
  have hP : va_P D vwCl [(h0, .inr (0, [.null, .null, .null, .null, .int 0]))] s.heap := hP
  have hl := lv_entry ([.ref h0]) (n := 1) (Nat.le_of_ble_eq_true rfl)
  rw [lg_entry_eq]
  generalize (lg_sl ([.ref h0]) ++ List.replicate (1 - (lg_sl ([.ref h0])).length) Slot.unset).toArray = ls at hl ⊢
  have hl : lv_has ls 1 [(0, .ref h0)] := hl
  refine z_start hP hS (fun H locs hP hS => ?_)
  have hin2 : ∀ w ∈ wsX20, w ∈ wsX0_init := by decide +kernel
  have hin0 : ∀ w ∈ wsX00, w ∈ wsX0_init := by decide +kernel
  have hf16 := hts (.fieldLink RX0 16 "SqueezedVolume$Directory" "kinds" "LSqueezedVolume$Row;") (by decide +kernel)
  have hf20 := hts (.fieldLink RX0 20 "SqueezedVolume$Directory" "lengths" "LSqueezedVolume$Row;") (by decide +kernel)
  have hf23 := hts (.fieldLink RX0 23 "SqueezedVolume$Directory" "names" "LSqueezedVolume$Row;") (by decide +kernel)
  have hf26 := hts (.fieldLink RX0 26 "SqueezedVolume$Directory" "handles" "LSqueezedVolume$Row;") (by decide +kernel)
  have hf29 := hts (.fieldLink RX0 29 "SqueezedVolume$Directory" "count" "I") (by decide +kernel)
  refine lv_aload_n hx hb dX0_init_0 rfl (lv_at hl 0 rfl) ?_
  refine W.objInit hx hb hown (hts (.methodLink RX0 3 objectInit) (by decide +kernel)) (hts (.instanceMethod objectInit) (by decide +kernel)) (hts (.code objectInit ⟨#[0xb1]⟩ 1 none) (by decide +kernel)) rfl (by rw [hml]; exact hl.1) rfl dX0_init_1 (Nat.le_of_ble_eq_true rfl) (Nat.le_of_ble_eq_true rfl) ?_
  refine W.eq (g2 := F0 m 4 ls []) rfl ?_
  refine lv_aload_n hx hb dX0_init_4 rfl (lv_at hl 0 rfl) ?_
  refine va_new (ci := 2) (fs := [.null]) (C := RX2) (T := TX2) (N := 1) hx hb hts hin2 tyX2 tyX2_ok hown (hts (.classLink RX0 9 RX2) (by decide +kernel)) (hts (.instantiable RX2 1) (by decide +kernel)) (hts (.initialized RX2) (by decide +kernel)) hK hP hD hS hA rfl (fun j hj => by match j, hj with | 0, _ => rfl | j + 1, h => exact absurd h (by omega)) (Nat.le_of_ble_eq_true rfl) (Nat.le_of_ble_eq_true rfl) dX0_init_5 (fun b_1 H hP hD hS => ?_)
  have hP : va_P D vwCl [(h0, .inr (0, [.null, .null, .null, .null, .int 0])), (b_1, .inr (2, [.null]))] H := hP
  have hD : va_D A [(h0, .inr (0, [.null, .null, .null, .null, .int 0])), (b_1, .inr (2, [.null]))] := hD
  refine lv_dup hx hb dX0_init_8 rfl ?_
  refine lv_bipush (v := 17) hx hb dX0_init_9 (by decide) ?_
  have hPc : va_P D vwCl [(b_1, .inr (2, [.null]))] H := hP.sub [1] rfl
  have hDc : va_D A [(b_1, .inr (2, [.null]))] := hD.sub [1] (by decide) rfl
  refine z_callN (wr := [(h0, .inr (0, [.null, .null, .null, .null, .int 0]))]) [1] [0] (va_runI (As := [.int 17]) (rest := [.ref b_1, .ref h0]) ⟨hx, hb, hml, hown, hts⟩ (c_X2_init17 l D cI b_1 17 H.size rfl) (cwI 1 hts gX0_init_X2_init rfl rfl rfl (hts (.initialized RX2) (by decide +kernel)) (hts (.methodLink RX0 13 yX2_init) (by decide +kernel)) (hts (.instanceMethod yX2_init) (by decide +kernel)) rfl qd_X2_init ⟨Nat.le_of_ble_eq_true rfl, Nat.le_of_ble_eq_true rfl⟩) ⟨z_Pw_blind, fun U hU hW => ⟨rfl, by rw [hU], by rw [hU]; exact hPc, va_K.moved hW.alike hK, hDc.weaken (fun _ _ _ _ => trivial)⟩⟩ rfl rfl hl.1 rfl (lv_room (Nat.le_of_ble_eq_true rfl)) dX0_init_11 ⟨Nat.le_of_ble_eq_true rfl, Nat.le_of_ble_eq_true rfl⟩) hP hD hS hA rfl rfl (by decide) (by decide) (fun b_2 H locs hP hD hS => ?_)
  have hP : va_P D vwCl [(h0, .inr (0, [.null, .null, .null, .null, .int 0])), (b_1, .inr (2, [.ref b_2])), (b_2, .inl (cI, 17, .inl (fun _ => 0)))] H := hP
  have hD : va_D A [(h0, .inr (0, [.null, .null, .null, .null, .int 0])), (b_1, .inr (2, [.ref b_2])), (b_2, .inl (cI, 17, .inl (fun _ => 0)))] := hD
  refine va_putF (D := D) (ci := 0) (v := .ref b_1) (ty := .object "SqueezedVolume$Row") (C := RX0) (T := TX0) (N := 5) hx hb hts hin0 tyX0 tyX0_ok nmX0 hown hK hP hD hS 0 rfl rfl 0 (by decide) hf16 (fun _ h9 => h9) rfl hin rfl (by decide +kernel) rfl rfl (Nat.le_of_ble_eq_true rfl) dX0_init_14 (fun H locs hP hD hS => ?_)
  have hP : va_P D vwCl [(h0, .inr (0, [.ref b_1, .null, .null, .null, .int 0])), (b_1, .inr (2, [.ref b_2])), (b_2, .inl (cI, 17, .inl (fun _ => 0)))] H := hP
  have hD : va_D A [(h0, .inr (0, [.ref b_1, .null, .null, .null, .int 0])), (b_1, .inr (2, [.ref b_2])), (b_2, .inl (cI, 17, .inl (fun _ => 0)))] := hD
  refine lv_aload_n hx hb dX0_init_17 rfl (lv_at hl 0 rfl) ?_
  refine va_new (ci := 2) (fs := [.null]) (C := RX2) (T := TX2) (N := 1) hx hb hts hin2 tyX2 tyX2_ok hown (hts (.classLink RX0 9 RX2) (by decide +kernel)) (hts (.instantiable RX2 1) (by decide +kernel)) (hts (.initialized RX2) (by decide +kernel)) hK hP hD hS hA rfl (fun j hj => by match j, hj with | 0, _ => rfl | j + 1, h => exact absurd h (by omega)) (Nat.le_of_ble_eq_true rfl) (Nat.le_of_ble_eq_true rfl) dX0_init_18 (fun b_3 H hP hD hS => ?_)
  have hP : va_P D vwCl [(h0, .inr (0, [.ref b_1, .null, .null, .null, .int 0])), (b_1, .inr (2, [.ref b_2])), (b_2, .inl (cI, 17, .inl (fun _ => 0))), (b_3, .inr (2, [.null]))] H := hP
  have hD : va_D A [(h0, .inr (0, [.ref b_1, .null, .null, .null, .int 0])), (b_1, .inr (2, [.ref b_2])), (b_2, .inl (cI, 17, .inl (fun _ => 0))), (b_3, .inr (2, [.null]))] := hD
  refine lv_dup hx hb dX0_init_21 rfl ?_
  refine lv_bipush (v := 17) hx hb dX0_init_22 (by decide) ?_
  have hPc : va_P D vwCl [(b_3, .inr (2, [.null]))] H := hP.sub [3] rfl
  have hDc : va_D A [(b_3, .inr (2, [.null]))] := hD.sub [3] (by decide) rfl
  refine z_callN (wr := [(h0, .inr (0, [.ref b_1, .null, .null, .null, .int 0])), (b_1, .inr (2, [.ref b_2])), (b_2, .inl (cI, 17, .inl (fun _ => 0)))]) [3] [0, 1, 2] (va_runI (As := [.int 17]) (rest := [.ref b_3, .ref h0]) ⟨hx, hb, hml, hown, hts⟩ (c_X2_init17 l D cI b_3 17 H.size rfl) (cwI 1 hts gX0_init_X2_init rfl rfl rfl (hts (.initialized RX2) (by decide +kernel)) (hts (.methodLink RX0 13 yX2_init) (by decide +kernel)) (hts (.instanceMethod yX2_init) (by decide +kernel)) rfl qd_X2_init ⟨Nat.le_of_ble_eq_true rfl, Nat.le_of_ble_eq_true rfl⟩) ⟨z_Pw_blind, fun U hU hW => ⟨rfl, by rw [hU], by rw [hU]; exact hPc, va_K.moved hW.alike hK, hDc.weaken (fun _ _ _ _ => trivial)⟩⟩ rfl rfl hl.1 rfl (lv_room (Nat.le_of_ble_eq_true rfl)) dX0_init_24 ⟨Nat.le_of_ble_eq_true rfl, Nat.le_of_ble_eq_true rfl⟩) hP hD hS hA rfl rfl (by decide) (by decide) (fun b_4 H locs hP hD hS => ?_)
  have hP : va_P D vwCl [(h0, .inr (0, [.ref b_1, .null, .null, .null, .int 0])), (b_1, .inr (2, [.ref b_2])), (b_2, .inl (cI, 17, .inl (fun _ => 0))), (b_3, .inr (2, [.ref b_4])), (b_4, .inl (cI, 17, .inl (fun _ => 0)))] H := hP
  have hD : va_D A [(h0, .inr (0, [.ref b_1, .null, .null, .null, .int 0])), (b_1, .inr (2, [.ref b_2])), (b_2, .inl (cI, 17, .inl (fun _ => 0))), (b_3, .inr (2, [.ref b_4])), (b_4, .inl (cI, 17, .inl (fun _ => 0)))] := hD
  refine va_putF (D := D) (ci := 0) (v := .ref b_3) (ty := .object "SqueezedVolume$Row") (C := RX0) (T := TX0) (N := 5) hx hb hts hin0 tyX0 tyX0_ok nmX0 hown hK hP hD hS 0 rfl rfl 1 (by decide) hf20 (fun _ h9 => h9) rfl hin rfl (by decide +kernel) rfl rfl (Nat.le_of_ble_eq_true rfl) dX0_init_27 (fun H locs hP hD hS => ?_)
  have hP : va_P D vwCl [(h0, .inr (0, [.ref b_1, .ref b_3, .null, .null, .int 0])), (b_1, .inr (2, [.ref b_2])), (b_2, .inl (cI, 17, .inl (fun _ => 0))), (b_3, .inr (2, [.ref b_4])), (b_4, .inl (cI, 17, .inl (fun _ => 0)))] H := hP
  have hD : va_D A [(h0, .inr (0, [.ref b_1, .ref b_3, .null, .null, .int 0])), (b_1, .inr (2, [.ref b_2])), (b_2, .inl (cI, 17, .inl (fun _ => 0))), (b_3, .inr (2, [.ref b_4])), (b_4, .inl (cI, 17, .inl (fun _ => 0)))] := hD
  refine lv_aload_n hx hb dX0_init_30 rfl (lv_at hl 0 rfl) ?_
  refine va_new (ci := 2) (fs := [.null]) (C := RX2) (T := TX2) (N := 1) hx hb hts hin2 tyX2 tyX2_ok hown (hts (.classLink RX0 9 RX2) (by decide +kernel)) (hts (.instantiable RX2 1) (by decide +kernel)) (hts (.initialized RX2) (by decide +kernel)) hK hP hD hS hA rfl (fun j hj => by match j, hj with | 0, _ => rfl | j + 1, h => exact absurd h (by omega)) (Nat.le_of_ble_eq_true rfl) (Nat.le_of_ble_eq_true rfl) dX0_init_31 (fun b_5 H hP hD hS => ?_)
  have hP : va_P D vwCl [(h0, .inr (0, [.ref b_1, .ref b_3, .null, .null, .int 0])), (b_1, .inr (2, [.ref b_2])), (b_2, .inl (cI, 17, .inl (fun _ => 0))), (b_3, .inr (2, [.ref b_4])), (b_4, .inl (cI, 17, .inl (fun _ => 0))), (b_5, .inr (2, [.null]))] H := hP
  have hD : va_D A [(h0, .inr (0, [.ref b_1, .ref b_3, .null, .null, .int 0])), (b_1, .inr (2, [.ref b_2])), (b_2, .inl (cI, 17, .inl (fun _ => 0))), (b_3, .inr (2, [.ref b_4])), (b_4, .inl (cI, 17, .inl (fun _ => 0))), (b_5, .inr (2, [.null]))] := hD
  refine lv_dup hx hb dX0_init_34 rfl ?_
  refine lv_bipush (v := 17) hx hb dX0_init_35 (by decide) ?_
  have hPc : va_P D vwCl [(b_5, .inr (2, [.null]))] H := hP.sub [5] rfl
  have hDc : va_D A [(b_5, .inr (2, [.null]))] := hD.sub [5] (by decide) rfl
  refine z_callN (wr := [(h0, .inr (0, [.ref b_1, .ref b_3, .null, .null, .int 0])), (b_1, .inr (2, [.ref b_2])), (b_2, .inl (cI, 17, .inl (fun _ => 0))), (b_3, .inr (2, [.ref b_4])), (b_4, .inl (cI, 17, .inl (fun _ => 0)))]) [5] [0, 1, 2, 3, 4] (va_runI (As := [.int 17]) (rest := [.ref b_5, .ref h0]) ⟨hx, hb, hml, hown, hts⟩ (c_X2_init17 l D cI b_5 17 H.size rfl) (cwI 1 hts gX0_init_X2_init rfl rfl rfl (hts (.initialized RX2) (by decide +kernel)) (hts (.methodLink RX0 13 yX2_init) (by decide +kernel)) (hts (.instanceMethod yX2_init) (by decide +kernel)) rfl qd_X2_init ⟨Nat.le_of_ble_eq_true rfl, Nat.le_of_ble_eq_true rfl⟩) ⟨z_Pw_blind, fun U hU hW => ⟨rfl, by rw [hU], by rw [hU]; exact hPc, va_K.moved hW.alike hK, hDc.weaken (fun _ _ _ _ => trivial)⟩⟩ rfl rfl hl.1 rfl (lv_room (Nat.le_of_ble_eq_true rfl)) dX0_init_37 ⟨Nat.le_of_ble_eq_true rfl, Nat.le_of_ble_eq_true rfl⟩) hP hD hS hA rfl rfl (by decide) (by decide) (fun b_6 H locs hP hD hS => ?_)
  have hP : va_P D vwCl [(h0, .inr (0, [.ref b_1, .ref b_3, .null, .null, .int 0])), (b_1, .inr (2, [.ref b_2])), (b_2, .inl (cI, 17, .inl (fun _ => 0))), (b_3, .inr (2, [.ref b_4])), (b_4, .inl (cI, 17, .inl (fun _ => 0))), (b_5, .inr (2, [.ref b_6])), (b_6, .inl (cI, 17, .inl (fun _ => 0)))] H := hP
  have hD : va_D A [(h0, .inr (0, [.ref b_1, .ref b_3, .null, .null, .int 0])), (b_1, .inr (2, [.ref b_2])), (b_2, .inl (cI, 17, .inl (fun _ => 0))), (b_3, .inr (2, [.ref b_4])), (b_4, .inl (cI, 17, .inl (fun _ => 0))), (b_5, .inr (2, [.ref b_6])), (b_6, .inl (cI, 17, .inl (fun _ => 0)))] := hD
  refine va_putF (D := D) (ci := 0) (v := .ref b_5) (ty := .object "SqueezedVolume$Row") (C := RX0) (T := TX0) (N := 5) hx hb hts hin0 tyX0 tyX0_ok nmX0 hown hK hP hD hS 0 rfl rfl 2 (by decide) hf23 (fun _ h9 => h9) rfl hin rfl (by decide +kernel) rfl rfl (Nat.le_of_ble_eq_true rfl) dX0_init_40 (fun H locs hP hD hS => ?_)
  have hP : va_P D vwCl [(h0, .inr (0, [.ref b_1, .ref b_3, .ref b_5, .null, .int 0])), (b_1, .inr (2, [.ref b_2])), (b_2, .inl (cI, 17, .inl (fun _ => 0))), (b_3, .inr (2, [.ref b_4])), (b_4, .inl (cI, 17, .inl (fun _ => 0))), (b_5, .inr (2, [.ref b_6])), (b_6, .inl (cI, 17, .inl (fun _ => 0)))] H := hP
  have hD : va_D A [(h0, .inr (0, [.ref b_1, .ref b_3, .ref b_5, .null, .int 0])), (b_1, .inr (2, [.ref b_2])), (b_2, .inl (cI, 17, .inl (fun _ => 0))), (b_3, .inr (2, [.ref b_4])), (b_4, .inl (cI, 17, .inl (fun _ => 0))), (b_5, .inr (2, [.ref b_6])), (b_6, .inl (cI, 17, .inl (fun _ => 0)))] := hD
  refine lv_aload_n hx hb dX0_init_43 rfl (lv_at hl 0 rfl) ?_
  refine va_new (ci := 2) (fs := [.null]) (C := RX2) (T := TX2) (N := 1) hx hb hts hin2 tyX2 tyX2_ok hown (hts (.classLink RX0 9 RX2) (by decide +kernel)) (hts (.instantiable RX2 1) (by decide +kernel)) (hts (.initialized RX2) (by decide +kernel)) hK hP hD hS hA rfl (fun j hj => by match j, hj with | 0, _ => rfl | j + 1, h => exact absurd h (by omega)) (Nat.le_of_ble_eq_true rfl) (Nat.le_of_ble_eq_true rfl) dX0_init_44 (fun b_7 H hP hD hS => ?_)
  have hP : va_P D vwCl [(h0, .inr (0, [.ref b_1, .ref b_3, .ref b_5, .null, .int 0])), (b_1, .inr (2, [.ref b_2])), (b_2, .inl (cI, 17, .inl (fun _ => 0))), (b_3, .inr (2, [.ref b_4])), (b_4, .inl (cI, 17, .inl (fun _ => 0))), (b_5, .inr (2, [.ref b_6])), (b_6, .inl (cI, 17, .inl (fun _ => 0))), (b_7, .inr (2, [.null]))] H := hP
  have hD : va_D A [(h0, .inr (0, [.ref b_1, .ref b_3, .ref b_5, .null, .int 0])), (b_1, .inr (2, [.ref b_2])), (b_2, .inl (cI, 17, .inl (fun _ => 0))), (b_3, .inr (2, [.ref b_4])), (b_4, .inl (cI, 17, .inl (fun _ => 0))), (b_5, .inr (2, [.ref b_6])), (b_6, .inl (cI, 17, .inl (fun _ => 0))), (b_7, .inr (2, [.null]))] := hD
  refine lv_dup hx hb dX0_init_47 rfl ?_
  refine lv_bipush (v := 17) hx hb dX0_init_48 (by decide) ?_
  have hPc : va_P D vwCl [(b_7, .inr (2, [.null]))] H := hP.sub [7] rfl
  have hDc : va_D A [(b_7, .inr (2, [.null]))] := hD.sub [7] (by decide) rfl
  refine z_callN (wr := [(h0, .inr (0, [.ref b_1, .ref b_3, .ref b_5, .null, .int 0])), (b_1, .inr (2, [.ref b_2])), (b_2, .inl (cI, 17, .inl (fun _ => 0))), (b_3, .inr (2, [.ref b_4])), (b_4, .inl (cI, 17, .inl (fun _ => 0))), (b_5, .inr (2, [.ref b_6])), (b_6, .inl (cI, 17, .inl (fun _ => 0)))]) [7] [0, 1, 2, 3, 4, 5, 6] (va_runI (As := [.int 17]) (rest := [.ref b_7, .ref h0]) ⟨hx, hb, hml, hown, hts⟩ (c_X2_init17 l D cI b_7 17 H.size rfl) (cwI 1 hts gX0_init_X2_init rfl rfl rfl (hts (.initialized RX2) (by decide +kernel)) (hts (.methodLink RX0 13 yX2_init) (by decide +kernel)) (hts (.instanceMethod yX2_init) (by decide +kernel)) rfl qd_X2_init ⟨Nat.le_of_ble_eq_true rfl, Nat.le_of_ble_eq_true rfl⟩) ⟨z_Pw_blind, fun U hU hW => ⟨rfl, by rw [hU], by rw [hU]; exact hPc, va_K.moved hW.alike hK, hDc.weaken (fun _ _ _ _ => trivial)⟩⟩ rfl rfl hl.1 rfl (lv_room (Nat.le_of_ble_eq_true rfl)) dX0_init_50 ⟨Nat.le_of_ble_eq_true rfl, Nat.le_of_ble_eq_true rfl⟩) hP hD hS hA rfl rfl (by decide) (by decide) (fun b_8 H locs hP hD hS => ?_)
  have hP : va_P D vwCl [(h0, .inr (0, [.ref b_1, .ref b_3, .ref b_5, .null, .int 0])), (b_1, .inr (2, [.ref b_2])), (b_2, .inl (cI, 17, .inl (fun _ => 0))), (b_3, .inr (2, [.ref b_4])), (b_4, .inl (cI, 17, .inl (fun _ => 0))), (b_5, .inr (2, [.ref b_6])), (b_6, .inl (cI, 17, .inl (fun _ => 0))), (b_7, .inr (2, [.ref b_8])), (b_8, .inl (cI, 17, .inl (fun _ => 0)))] H := hP
  have hD : va_D A [(h0, .inr (0, [.ref b_1, .ref b_3, .ref b_5, .null, .int 0])), (b_1, .inr (2, [.ref b_2])), (b_2, .inl (cI, 17, .inl (fun _ => 0))), (b_3, .inr (2, [.ref b_4])), (b_4, .inl (cI, 17, .inl (fun _ => 0))), (b_5, .inr (2, [.ref b_6])), (b_6, .inl (cI, 17, .inl (fun _ => 0))), (b_7, .inr (2, [.ref b_8])), (b_8, .inl (cI, 17, .inl (fun _ => 0)))] := hD
  refine va_putF (D := D) (ci := 0) (v := .ref b_7) (ty := .object "SqueezedVolume$Row") (C := RX0) (T := TX0) (N := 5) hx hb hts hin0 tyX0 tyX0_ok nmX0 hown hK hP hD hS 0 rfl rfl 3 (by decide) hf26 (fun _ h9 => h9) rfl hin rfl (by decide +kernel) rfl rfl (Nat.le_of_ble_eq_true rfl) dX0_init_53 (fun H locs hP hD hS => ?_)
  have hP : va_P D vwCl [(h0, .inr (0, [.ref b_1, .ref b_3, .ref b_5, .ref b_7, .int 0])), (b_1, .inr (2, [.ref b_2])), (b_2, .inl (cI, 17, .inl (fun _ => 0))), (b_3, .inr (2, [.ref b_4])), (b_4, .inl (cI, 17, .inl (fun _ => 0))), (b_5, .inr (2, [.ref b_6])), (b_6, .inl (cI, 17, .inl (fun _ => 0))), (b_7, .inr (2, [.ref b_8])), (b_8, .inl (cI, 17, .inl (fun _ => 0)))] H := hP
  have hD : va_D A [(h0, .inr (0, [.ref b_1, .ref b_3, .ref b_5, .ref b_7, .int 0])), (b_1, .inr (2, [.ref b_2])), (b_2, .inl (cI, 17, .inl (fun _ => 0))), (b_3, .inr (2, [.ref b_4])), (b_4, .inl (cI, 17, .inl (fun _ => 0))), (b_5, .inr (2, [.ref b_6])), (b_6, .inl (cI, 17, .inl (fun _ => 0))), (b_7, .inr (2, [.ref b_8])), (b_8, .inl (cI, 17, .inl (fun _ => 0)))] := hD
  refine lv_aload_n hx hb dX0_init_56 rfl (lv_at hl 0 rfl) ?_
  refine lv_iconst (v := 0) hx hb dX0_init_57 (by decide) ?_
  refine va_put (D := D) (ci := 0) (v := .int 0) (ty := .int) (C := RX0) (T := TX0) (N := 5) hx hb hts hin0 tyX0 tyX0_ok nmX0 hown hK hP hD hS 0 rfl rfl 4 (by decide) hf29 (fun _ h9 => h9) rfl (by decide +kernel) rfl rfl (Nat.le_of_ble_eq_true rfl) dX0_init_58 (fun H locs hP hD hS => ?_)
  have hP : va_P D vwCl [(h0, .inr (0, [.ref b_1, .ref b_3, .ref b_5, .ref b_7, .int 0])), (b_1, .inr (2, [.ref b_2])), (b_2, .inl (cI, 17, .inl (fun _ => 0))), (b_3, .inr (2, [.ref b_4])), (b_4, .inl (cI, 17, .inl (fun _ => 0))), (b_5, .inr (2, [.ref b_6])), (b_6, .inl (cI, 17, .inl (fun _ => 0))), (b_7, .inr (2, [.ref b_8])), (b_8, .inl (cI, 17, .inl (fun _ => 0)))] H := hP
  have hD : va_D A [(h0, .inr (0, [.ref b_1, .ref b_3, .ref b_5, .ref b_7, .int 0])), (b_1, .inr (2, [.ref b_2])), (b_2, .inl (cI, 17, .inl (fun _ => 0))), (b_3, .inr (2, [.ref b_4])), (b_4, .inl (cI, 17, .inl (fun _ => 0))), (b_5, .inr (2, [.ref b_6])), (b_6, .inl (cI, 17, .inl (fun _ => 0))), (b_7, .inr (2, [.ref b_8])), (b_8, .inl (cI, 17, .inl (fun _ => 0)))] := hD
  have hP9 : va_P D vwCl [(h0, .inr (0, [.ref b_1, .ref b_3, .ref b_5, .ref b_7, .int d_new.2.2.2.2])), (b_1, .inr (2, [.ref b_2])), (b_2, .inl (cI, 17, .inl d_new.1)), (b_3, .inr (2, [.ref b_4])), (b_4, .inl (cI, 17, .inl d_new.2.1)), (b_5, .inr (2, [.ref b_6])), (b_6, .inl (cI, 17, .inl d_new.2.2.1)), (b_7, .inr (2, [.ref b_8])), (b_8, .inl (cI, 17, .inl d_new.2.2.2.1))] H := hP.sub [0, 1, 2, 3, 4, 5, 6, 7, 8] rfl
  have hD9 : va_D A [(h0, .inr (0, [.ref b_1, .ref b_3, .ref b_5, .ref b_7, .int d_new.2.2.2.2])), (b_1, .inr (2, [.ref b_2])), (b_2, .inl (cI, 17, .inl d_new.1)), (b_3, .inr (2, [.ref b_4])), (b_4, .inl (cI, 17, .inl d_new.2.1)), (b_5, .inr (2, [.ref b_6])), (b_6, .inl (cI, 17, .inl d_new.2.2.1)), (b_7, .inr (2, [.ref b_8])), (b_8, .inl (cI, 17, .inl d_new.2.2.2.1))] := hD.sub [0, 1, 2, 3, 4, 5, 6, 7, 8] (by decide) rfl
  exact W.vret hx hb hr (fun t ht hW => ⟨⟨(b_1, b_2, b_3, b_4, b_5, b_6, b_7, b_8), rfl, by rw [ht]; exact hP9, hD9⟩, hS.F ht⟩) hS.2.2 dX0_init_61
