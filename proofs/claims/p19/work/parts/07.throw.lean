/-! methods that may throw -/
theorem z_Ng_moved {u U : State} (hvm : u.vm.Alike U.vm) {args : Array Value} (h : ∀ w ∈ z_Ng, w.before #[] u = true) : ∀ w ∈ z_Ng, w.before args U = true := by
  have one : ∀ E : String, (Cond.castable E E).before #[] u = true → (Cond.castable E E).before args U = true := by
    intro E h
    simp only [Cond.before, Cond.holds, Cond.value, hvm.findClass, hvm.assignable] at h ⊢
    exact h
  have two : ∀ x : MethodName, (Cond.declares x).before #[] u = true → (Cond.declares x).before args U = true := by
    intro x h
    have h1 : (Cond.declares x).before #[] (u.setVm U.vm) = true := by
      rw [Cond.declares_setVm hvm]
      exact h
    have e := Cond.onTables_vm (A := #[]) (A' := args) (U := u) (U' := U) U.vm (Cond.declares x) rfl
    have hU : U.setVm U.vm = U := rfl
    rw [hU] at e
    rw [← e]
    exact h1
  intro w hw
  simp only [z_Ng, List.mem_cons, List.not_mem_nil, or_false] at hw
  rcases hw with rfl | rfl | rfl | rfl | rfl | rfl | rfl
  all_goals first | exact one _ (h _ (by simp [z_Ng])) | exact two _ (h _ (by simp [z_Ng]))
theorem z_Th_at {A0 A1 : Nat → Prop} {s U : State} {H : Heap} {locs : List Loc} (h : z_Th A0 s s.heap) (hS : va_S A0 s.heap H locs) (hA : ∀ q, A1 q → A0 q) (hU : U.heap = H) (hW : s.WarmedH U.vm) : z_Th A1 U U.heap := by
  rw [hU]
  obtain ⟨h1, h2, h3, h4⟩ := h
  exact ⟨((h1.kept hS.2.1).narrow hA).moved hW.alike, ((h2.kept hS.2.1).narrow hA).moved hW.alike, z_Ng_moved hW.alike h3, fun q hq => by
    obtain ⟨a, ha⟩ := h4 q hq
    exact ⟨a, ha.warm hW⟩⟩
def z_Px (D : va_G) (cI : ClassId) (av : List Value) (ws : va_W) (sz : Nat) : Array Value → State → Prop := va_Pc av (fun U => U.heap.size = sz ∧ va_P D vwCl ws U.heap ∧ va_K D vwCl [(cI, .int)] U ∧ va_D (fun _ => True) ws ∧ z_Th (va_A ws sz) U U.heap)
theorem z_Px_blind {D : va_G} {cI : ClassId} {av : List Value} {ws : va_W} {sz : Nat} : FrameBlind (z_Px D cI av ws sz) := fun a U g mk q => by
  obtain ⟨q0, q1, qP, qK, qD, q2, q3, q4, q5⟩ := q
  exact ⟨q0, q1, qP, va_K.moved (u := U) (U := U.calling g mk a) (Vm.Alike.refl U.vm) qK, qD, vx_Zq.moved (u := U) (U := U.calling g mk a) (Vm.Alike.refl U.vm) q2, vx_Zq.moved (u := U) (U := U.calling g mk a) (Vm.Alike.refl U.vm) q3,
    z_Ng_moved (u := U) (U := U.calling g mk a) (Vm.Alike.refl U.vm) q4, fun x hx => by
      obtain ⟨a9, h9⟩ := q5 x hx
      exact ⟨a9, vk_R.same (u := U) (U := U.calling g mk a) rfl h9⟩⟩
def z_Xq (D : va_G) (cd : Nat) (v : Option Value) (w1 : va_W) (A : Nat → Prop) : Array Value → State → Outcome → State → Prop := fun _ st o t => (cd = 0 ∧ o = .returned v ∧ va_P D vwCl w1 t.heap) ∧ va_F A st t
def z_Xx (D : va_G) (cd : Nat) (w1 : va_W) (A : Nat → Prop) : String → State → State → Prop := fun E st t => (cd ≠ 0 ∧ E = z_E cd ∧ va_P D vwCl w1 t.heap) ∧ va_F A st t
section ZX
variable {p : Program} {l : Launch} {e : Env} {R : Room} {s : State} {m : MethodId} {args : Array Value} {below : List Frame} {meth : Method} {c : Code} {H : Heap} {locs : List Loc} {cells slots mc ms : Nat} {Q : State → Prop}
variable {pc cd cd' : Nat} {ls : Array Slot} {rest st0 : List Value} {a : Array Value} {v : Option Value} {D : va_G} {A0 A : Nat → Prop} {H0 : Heap} {ws wc w1 ws' : va_W}
theorem z_callX (isC isR : List Nat) (wr : va_W) (ad : List Nat) (hr : vx_Run p l e R s m args below meth c H locs cells slots mc ms (F0 m pc ls st0) rest (z_Xq D cd v w1 (va_A wc H.size) a) (z_Xx D cd w1 (va_A wc H.size)) (va_A wc H.size))
    (hP : va_P D vwCl ws H) (hD : va_D A0 ws) (hS : va_S A0 H0 H locs) (hA : ∀ q : Nat, H0.size ≤ q → A0 q) (hp : z_Pl isC isR wr ad ws wc w1 ws')
    (kx : cd ≠ 0 → ∀ (ce : Cell) (q9 : Addr) (H1 : Heap) (locs1 : List Loc), va_P D vwCl ws' H1 → va_D A0 ws' → va_S A0 H0 H1 locs1 → H1[q9]? = some ce → ce.vm = .none → s.vm.findClass (z_E cd) = some ce.cls → vx_W p l e R s m args below meth c H1 locs1 (cells + mc) (slots + ms) Q (F0 m pc ls rest) q9)
    (kk : cd = 0 → ∀ (H1 : Heap) (locs1 : List Loc), va_P D vwCl ws' H1 → va_D A0 ws' → va_S A0 H0 H1 locs1 → W p l e R s m args below meth c H1 locs1 (cells + mc) (slots + ms) Q (F0 m (pc + 3) ls (v.toList ++ rest))) : W p l e R s m args below meth c H locs cells slots Q (F0 m pc ls st0) := by
  intro T hT X
  have hf := va_free hD hS hA isC hp.1
  rcases hr T hT X with ⟨v', st₀, t, T', L, h0, X', hL, e1, e2, ⟨⟨hcd, hv, hb⟩, hF⟩, st⟩ | ⟨q, st₀, t, T', L, E, ce, h0, X', hL, e1, e2, ⟨⟨hcd, hE, hb⟩, hF⟩, hce, hcv, hcl, st⟩
  · cases hv
    obtain ⟨-, k2, k3⟩ := vx_keep h0 e1 hS (fun q _ h => hf q h) hf hL hF
    obtain ⟨t2, a1, b1⟩ := kk hcd T'.heap (locs ++ L) (z_join hP hD hp k2 (by rw [e1]; exact hb)) (z_D_of (hp.2.2.2.2.2.1.trans hp.2.2.2.2.2.2.symm) hD) k3 T' rfl X'
    exact ⟨t2, st t2 a1, b1⟩
  · subst hE
    obtain ⟨-, k2, k3⟩ := vx_keep h0 e1 hS (fun q _ h => hf q h) hf hL hF
    obtain ⟨t2, a1, b1⟩ := kx hcd ce q T'.heap (locs ++ L) (z_join hP hD hp k2 (by rw [e1]; exact hb)) (z_D_of (hp.2.2.2.2.2.1.trans hp.2.2.2.2.2.2.symm) hD) k3 (by rw [e1]; exact hce) hcv hcl T' rfl X'
    exact ⟨t2, st.trans a1, b1⟩
theorem z_callXi {x : Int32} (isC isR : List Nat) (wr : va_W) (ad : List Nat) (hr : vx_Run p l e R s m args below meth c H locs cells slots mc ms (F0 m pc ls st0) rest (z_Xq D cd (some (.int x)) w1 (va_A wc H.size) a) (z_Xx D cd w1 (va_A wc H.size)) (va_A wc H.size))
    (hP : va_P D vwCl ws H) (hD : va_D A0 ws) (hS : va_S A0 H0 H locs) (hA : ∀ q : Nat, H0.size ≤ q → A0 q) (hp : z_Pl isC isR wr ad ws wc w1 ws')
    (kx : cd ≠ 0 → ∀ (ce : Cell) (q9 : Addr) (H1 : Heap) (locs1 : List Loc), va_P D vwCl ws' H1 → va_D A0 ws' → va_S A0 H0 H1 locs1 → H1[q9]? = some ce → ce.vm = .none → s.vm.findClass (z_E cd) = some ce.cls → vx_W p l e R s m args below meth c H1 locs1 (cells + mc) (slots + ms) Q (F0 m pc ls rest) q9)
    (kk : cd = 0 → ∀ (H1 : Heap) (locs1 : List Loc), va_P D vwCl ws' H1 → va_D A0 ws' → va_S A0 H0 H1 locs1 → W p l e R s m args below meth c H1 locs1 (cells + mc) (slots + ms) Q (F0 m (pc + 3) ls (.int x :: rest))) : W p l e R s m args below meth c H locs cells slots Q (F0 m pc ls st0) := z_callX isC isR wr ad hr hP hD hS hA hp kx kk
theorem z_callXv (isC isR : List Nat) (wr : va_W) (ad : List Nat) (hr : vx_Run p l e R s m args below meth c H locs cells slots mc ms (F0 m pc ls st0) rest (z_Xq D cd none w1 (va_A wc H.size) a) (z_Xx D cd w1 (va_A wc H.size)) (va_A wc H.size))
    (hP : va_P D vwCl ws H) (hD : va_D A0 ws) (hS : va_S A0 H0 H locs) (hA : ∀ q : Nat, H0.size ≤ q → A0 q) (hp : z_Pl isC isR wr ad ws wc w1 ws')
    (kx : cd ≠ 0 → ∀ (ce : Cell) (q9 : Addr) (H1 : Heap) (locs1 : List Loc), va_P D vwCl ws' H1 → va_D A0 ws' → va_S A0 H0 H1 locs1 → H1[q9]? = some ce → ce.vm = .none → s.vm.findClass (z_E cd) = some ce.cls → vx_W p l e R s m args below meth c H1 locs1 (cells + mc) (slots + ms) Q (F0 m pc ls rest) q9)
    (kk : cd = 0 → ∀ (H1 : Heap) (locs1 : List Loc), va_P D vwCl ws' H1 → va_D A0 ws' → va_S A0 H0 H1 locs1 → W p l e R s m args below meth c H1 locs1 (cells + mc) (slots + ms) Q (F0 m (pc + 3) ls rest)) : W p l e R s m args below meth c H locs cells slots Q (F0 m pc ls st0) := z_callX isC isR wr ad hr hP hD hS hA hp kx kk
/-- a callee's exception goes on to the caller -/
theorem z_out {q9 : Addr} {ce : Cell} (hout : ∀ x ∈ c.exceptionTable.toList, False) (hlocks : meth.locks = false) (hne : cd ≠ 0) (hce : H[q9]? = some ce) (hcv : ce.vm = .none) (hcl : s.vm.findClass (z_E cd) = some ce.cls) (hcd : cd = cd') (hP : va_P D vwCl w1 H) (hS : va_S A s.heap H locs) (hc : cells ≤ mc) (hs : slots ≤ ms) :
    vx_W p l e R s m args below meth c H locs cells slots (vx_MQ below (z_Xq D cd' v w1 A) (z_Xx D cd' w1 A) args s mc ms A) (F0 m pc ls rest) q9 := by
  subst hcd
  exact vx_out (fun x hx => (hout x hx).elim) hlocks hce hcv hcl (fun t ht hvm => ⟨⟨hne, rfl, by rw [ht]; exact hP⟩, hS.F ht⟩) hS.2.2 hc hs
/-- 'throw new E("text")' of the class itself -/
theorem z_throw {cc : ByteArray} {text cls : String} {ik is ic : Nat} {Ts : List Cond} (hexec : p.tables.exec = Jvm.exec) (hb : c.code = cc) (hl : l.stackTraces = false) (hown : s.vm.findClass RX3 = some m.cls) (hts : ∀ w ∈ Ts, w.before args s = true) (hne : cd ≠ 0) (hE : z_E cd = cls) (hfit : Bundle.fit cls = true)
    (hk : Cond.classLink RX3 ik cls ∈ Ts) (hini : Cond.initialized cls ∈ Ts) (hstr : (is, text) ∈ z_Strs) (hg : ∀ w ∈ (vx_atS RX3 ic cls ["java/lang/RuntimeException", "java/lang/Exception"]).filter goodWord, w ∈ Ts)
    (hng : ∀ w ∈ (vx_atS RX3 ic cls ["java/lang/RuntimeException", "java/lang/Exception"]).filter (fun w => !goodWord w), w ∈ z_Ng) (hgood : ∀ w ∈ Cond.classLink RX3 ik cls :: Cond.initialized cls :: vx_atS RX3 ic cls ["java/lang/RuntimeException", "java/lang/Exception"], vx_ot w = true)
    (hTh : z_Th A s s.heap) (hS : va_S A s.heap H locs) (hsize : ls.size = c.maxLocals)
    (d0 : decode cc pc = .ok (.new ik, 3)) (d3 : decode cc (pc + 3) = .ok (.dup, 1)) (d4 : decode cc (pc + 4) = .ok (.ldc is, 2)) (d6 : decode cc (pc + 6) = .ok (.invokespecial ic, 3)) (d9 : decode cc (pc + 9) = .ok (.athrow, 1))
    (hout : ∀ x ∈ c.exceptionTable.toList, False) (hRf : 5 < R.frames) (hRl : (rest.map fun v => v.category).sum + 82 ≤ R.locals) (hRc : cells + 1 ≤ R.cells) (hRs : slots + 6 ≤ R.slots) (hlocks : meth.locks = false) (hcd : cd = cd') (hP : va_P D vwCl w1 H) (hc : cells + 1 ≤ mc) (hs : slots + 6 ≤ ms) :
    W p l e R s m args below meth c H locs cells slots (vx_MQ below (z_Xq D cd' v w1 A) (z_Xx D cd' w1 A) args s mc ms A) (F0 m pc ls rest) := by
  subst hcd
  obtain ⟨hU, hN, hC, hT⟩ := hTh
  obtain ⟨sa, hsa⟩ := hT _ hstr
  have hfn : ∀ n ∈ ["java/lang/RuntimeException", "java/lang/Exception"], Bundle.fit n = true := by decide +kernel
  refine vx_throwS (names := ["java/lang/RuntimeException", "java/lang/Exception"]) (text := text) (sa := sa) hexec hb hl hown hfit hfn (hts _ hk) (hts _ hini) hsa (vx_hat (fun w hw => hts w (hg w hw)) hng (z_Ng_moved (Vm.Alike.refl s.vm) hC)) hgood hU hN hS hsize d0 d3 d4 d6 d9 (fun x hx => (hout x hx).elim) hRf hRl hRc hRs hlocks ?_ hS.2.2 hc hs
  intro t hvm hsz hq
  exact ⟨⟨hne, hE.symm, hP.kept (fun k q hk => hq q.1 (hP k q hk).lt)⟩, Nat.le_trans hS.1 hsz, fun q h1 h2 => by rw [hq q (Nat.lt_of_lt_of_le h1 hS.1)]; exact hS.2.1 q h1 h2⟩
end ZX
