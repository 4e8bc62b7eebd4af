/-! BASE: worlds written in place, what reads, what writes, what may throw -/
theorem z_D_of {A : Nat → Prop} {ws ws' : va_W} (h : ws'.map Prod.fst = ws.map Prod.fst) (hD : va_D A ws) : va_D A ws' := by
  have at' : ∀ (k : Nat) (q : Nat × va_E), ws'[k]? = some q → ∃ e, ws[k]? = some (q.1, e) := by
    intro k q hq
    have h1 : (ws'.map Prod.fst)[k]? = some q.1 := by rw [List.getElem?_map, hq]; rfl
    rw [h, List.getElem?_map] at h1
    cases hw : ws[k]? with
    | none => rw [hw] at h1; cases h1
    | some x =>
      rw [hw] at h1
      have h2 : x.1 = q.1 := Option.some.inj h1
      exact ⟨x.2, by rw [← h2]⟩
  exact ⟨fun i j p q hi hj hpq => by
    obtain ⟨e1, h1⟩ := at' i p hi
    obtain ⟨e2, h2⟩ := at' j q hj
    exact hD.1 i j _ _ h1 h2 hpq, fun k q hq => by
    obtain ⟨e, h1⟩ := at' k q hq
    exact hD.2 k (q.1, e) h1⟩
/-- the world behind a call: at the places isC what the callee left, at isR what was there -/
abbrev z_Pl (isC isR : List Nat) (wr : va_W) (ad : List Nat) (ws wc w1 ws' : va_W) : Prop := isC.map (fun i => ws[i]?) = wc.map some ∧ isC.map (fun i => ws'[i]?) = w1.map some ∧ isR.map (fun i => ws'[i]?) = wr.map some ∧ isR.map (fun i => ws[i]?) = wr.map some ∧ ((List.range ad.length).all (fun k => isC.contains k || isR.contains k)) = true ∧ ws'.map Prod.fst = ad ∧ ws.map Prod.fst = ad
theorem z_map_at {α : Type} {is : List Nat} {f g : Nat → α} (h : is.map f = is.map g) : ∀ i ∈ is, f i = g i := by
  intro i hi
  exact List.map_inj_left.mp h i hi
theorem z_at_of {is : List Nat} {ws w : va_W} (h : is.map (fun i => ws[i]?) = w.map some) {i j : Nat} (hj : is[j]? = some i) : ws[i]? = w[j]? := by
  have h1 : (is.map (fun i => ws[i]?))[j]? = (w.map some)[j]? := by rw [h]
  rw [List.getElem?_map, List.getElem?_map, hj] at h1
  cases hw : w[j]? with
  | none => rw [hw] at h1; cases h1
  | some q => rw [hw] at h1; exact Option.some.inj h1
theorem z_join {A0 : Nat → Prop} {D : va_G} {ws wc w1 ws' : va_W} {H H1 : Heap} {isC isR ad : List Nat} {wr : va_W} (hP : va_P D vwCl ws H) (hD : va_D A0 ws) (hp : z_Pl isC isR wr ad ws wc w1 ws')
    (hk : ∀ q : Nat, q < H.size → ¬ va_A wc H.size q → H1[q]? = H[q]?) (hP1 : va_P D vwCl w1 H1) : va_P D vwCl ws' H1 := by
  obtain ⟨hC, hC', hR', hR0, hcov, hN, -⟩ := hp
  have hR := hR'.trans hR0.symm
  intro k q hq
  have hkl : k < ad.length := by rw [← hN, List.length_map]; exact (List.getElem?_eq_some_iff.mp hq).1
  have h1 := List.all_eq_true.mp hcov k (List.mem_range.mpr hkl)
  by_cases hkc : k ∈ isC
  · obtain ⟨j, hj⟩ := List.getElem?_of_mem hkc
    have h2 := z_at_of hC' hj
    exact hP1 j q (by rw [← h2]; exact hq)
  · have hkr : k ∈ isR := by
      rcases Bool.or_eq_true _ _ |>.mp h1 with h | h
      · exact absurd (List.contains_iff_mem.mp h) hkc
      · exact List.contains_iff_mem.mp h
    have h2 : ws[k]? = some q := by rw [← z_map_at hR k hkr]; exact hq
    have hlt := (hP k q h2).lt
    refine (hP k q h2).kept (hk q.1 hlt ?_)
    rintro (⟨k2, e, h⟩ | h)
    · have h3 : k2 < isC.length := by
        have h4 : (isC.map (fun i => ws[i]?)).length = (wc.map some).length := by rw [hC]
        rw [List.length_map, List.length_map] at h4
        rw [h4]
        exact (List.getElem?_eq_some_iff.mp h).1
      have h5 := z_at_of hC (List.getElem?_eq_getElem h3)
      rw [h] at h5
      have h6 := hD.1 k _ q (q.1, e) h2 h5 rfl
      exact hkc (by rw [h6]; exact List.getElem_mem h3)
    · exact absurd h (Nat.not_le.mpr hlt)
def z_Pr (D : va_G) (cI : ClassId) (av : List Value) (ws : va_W) : Array Value → State → Prop := va_Pc av (fun U => va_P D vwCl ws U.heap ∧ va_K D vwCl [(cI, .int)] U)
theorem z_Pr_blind {D : va_G} {cI : ClassId} {av : List Value} {ws : va_W} : FrameBlind (z_Pr D cI av ws) := fun a U g mk q => by
  obtain ⟨q0, qP, qK⟩ := q
  exact ⟨q0, qP, va_K.moved (u := U) (U := U.calling g mk a) (Vm.Alike.refl U.vm) qK⟩
def z_Pw (D : va_G) (cI : ClassId) (av : List Value) (ws : va_W) (sz : Nat) : Array Value → State → Prop := va_Pc av (fun U => U.heap.size = sz ∧ va_P D vwCl ws U.heap ∧ va_K D vwCl [(cI, .int)] U ∧ va_D (fun _ => True) ws)
theorem z_Pw_blind {D : va_G} {cI : ClassId} {av : List Value} {ws : va_W} {sz : Nat} : FrameBlind (z_Pw D cI av ws sz) := fun a U g mk q => by
  obtain ⟨q0, q1, qP, qK, qD⟩ := q
  exact ⟨q0, q1, qP, va_K.moved (u := U) (U := U.calling g mk a) (Vm.Alike.refl U.vm) qK, qD⟩
def z_Ro (v : Option Value) : Array Value → State → Outcome → State → Prop := fun _ st o t => o = .returned v ∧ t.heap = st.heap
def z_Wo (D : va_G) (v : Option Value) (w1 : va_W) (A : Nat → Prop) : Array Value → State → Outcome → State → Prop := fun _ st o t => (o = .returned v ∧ va_P D vwCl w1 t.heap) ∧ va_F A st t
section ZB
variable {p : Program} {l : Launch} {e : Env} {R : Room} {s : State} {m : MethodId} {args : Array Value} {below : List Frame} {meth : Method} {c : Code} {H : Heap} {locs : List Loc} {cells slots mc ms : Nat} {Q : State → Prop}
variable {pc : Nat} {ls : Array Slot} {rest st0 : List Value} {a : Array Value} {v : Option Value} {D : va_G} {A0 : Nat → Prop} {H0 : Heap} {ws wc w1 ws' : va_W}
theorem z_callR (hr : va_Run p l e R s m args below meth c H locs cells slots 0 0 (F0 m pc ls st0) rest (z_Ro v a) (fun _ => False))
    (kk : W p l e R s m args below meth c H locs cells slots Q (F0 m (pc + 3) ls (v.toList ++ rest))) : W p l e R s m args below meth c H locs cells slots Q (F0 m pc ls st0) := by
  intro T hT X
  obtain ⟨v', st₀, t, T', L, h0, X', hL, e1, e2, ⟨hv, hh⟩, st⟩ := hr T hT X
  have hL0 : L = [] := by
    cases L with
    | nil => rfl
    | cons q _ => exact (hL q List.mem_cons_self).elim
  subst hL0
  cases hv
  rw [List.append_nil] at X'
  obtain ⟨t2, a1, b1⟩ := kk T' (by rw [e1, hh, h0]) X'
  exact ⟨t2, st t2 a1, b1⟩
theorem z_callRi {x : Int32} (hr : va_Run p l e R s m args below meth c H locs cells slots 0 0 (F0 m pc ls st0) rest (z_Ro (some (.int x)) a) (fun _ => False))
    (kk : W p l e R s m args below meth c H locs cells slots Q (F0 m (pc + 3) ls (.int x :: rest))) : W p l e R s m args below meth c H locs cells slots Q (F0 m pc ls st0) := z_callR hr kk
theorem z_callW (isC isR : List Nat) (wr : va_W) (ad : List Nat) (hr : va_Run p l e R s m args below meth c H locs cells slots mc ms (F0 m pc ls st0) rest (z_Wo D v w1 (va_A wc H.size) a) (va_A wc H.size))
    (hP : va_P D vwCl ws H) (hD : va_D A0 ws) (hS : va_S A0 H0 H locs) (hA : ∀ q : Nat, H0.size ≤ q → A0 q) (hp : z_Pl isC isR wr ad ws wc w1 ws')
    (kk : ∀ (H1 : Heap) (locs1 : List Loc), va_P D vwCl ws' H1 → va_D A0 ws' → va_S A0 H0 H1 locs1 → W p l e R s m args below meth c H1 locs1 (cells + mc) (slots + ms) Q (F0 m (pc + 3) ls (v.toList ++ rest))) : W p l e R s m args below meth c H locs cells slots Q (F0 m pc ls st0) := by
  intro T hT X
  obtain ⟨v', st₀, t, T', L, h0, X', hL, e1, e2, ⟨⟨hv, hb⟩, hF⟩, st⟩ := hr T hT X
  cases hv
  have hf := va_free hD hS hA isC hp.1
  obtain ⟨-, k2, k3⟩ := vx_keep h0 e1 hS (fun q _ h => hf q h) hf hL hF
  obtain ⟨t2, a1, b1⟩ := kk T'.heap (locs ++ L) (z_join hP hD hp k2 (by rw [e1]; exact hb)) (z_D_of (hp.2.2.2.2.2.1.trans hp.2.2.2.2.2.2.symm) hD) k3 T' rfl X'
  exact ⟨t2, st t2 a1, b1⟩
theorem z_callWi {x : Int32} (isC isR : List Nat) (wr : va_W) (ad : List Nat) (hr : va_Run p l e R s m args below meth c H locs cells slots 0 0 (F0 m pc ls st0) rest (z_Wo D (some (.int x)) w1 (va_A wc H.size) a) (va_A wc H.size))
    (hP : va_P D vwCl ws H) (hD : va_D A0 ws) (hS : va_S A0 H0 H locs) (hA : ∀ q : Nat, H0.size ≤ q → A0 q) (hp : z_Pl isC isR wr ad ws wc w1 ws')
    (kk : ∀ (H1 : Heap) (locs1 : List Loc), va_P D vwCl ws' H1 → va_D A0 ws' → va_S A0 H0 H1 locs1 → W p l e R s m args below meth c H1 locs1 cells slots Q (F0 m (pc + 3) ls (.int x :: rest))) : W p l e R s m args below meth c H locs cells slots Q (F0 m pc ls st0) := z_callW isC isR wr ad hr hP hD hS hA hp kk
theorem z_callWv (isC isR : List Nat) (wr : va_W) (ad : List Nat) (hr : va_Run p l e R s m args below meth c H locs cells slots 0 0 (F0 m pc ls st0) rest (z_Wo D none w1 (va_A wc H.size) a) (va_A wc H.size))
    (hP : va_P D vwCl ws H) (hD : va_D A0 ws) (hS : va_S A0 H0 H locs) (hA : ∀ q : Nat, H0.size ≤ q → A0 q) (hp : z_Pl isC isR wr ad ws wc w1 ws')
    (kk : ∀ (H1 : Heap) (locs1 : List Loc), va_P D vwCl ws' H1 → va_D A0 ws' → va_S A0 H0 H1 locs1 → W p l e R s m args below meth c H1 locs1 cells slots Q (F0 m (pc + 3) ls rest)) : W p l e R s m args below meth c H locs cells slots Q (F0 m pc ls st0) := z_callW isC isR wr ad hr hP hD hS hA hp kk
end ZB
/-! exceptions: what a throw needs of the world, and the codes -/
def z_E : Nat → String
  | 1 => "java/lang/IllegalStateException"
  | 2 => "java/lang/IllegalArgumentException"
  | 3 => "java/lang/UnsupportedOperationException"
  | 4 => "java/util/NoSuchElementException"
  | _ => "java/lang/IndexOutOfBoundsException"
def z_Ng : List Cond := [.castable (z_E 1) (z_E 1), .castable (z_E 2) (z_E 2), .castable (z_E 3) (z_E 3), .castable (z_E 4) (z_E 4), .declares ⟨"java/lang/RuntimeException", "<init>", "(Ljava/lang/String;)V"⟩, .declares ⟨"java/lang/Exception", "<init>", "(Ljava/lang/String;)V"⟩, .declares ⟨"java/lang/Throwable", "<init>", "(Ljava/lang/String;)V"⟩]
def z_Strs : List (Nat × String) := [(179, "power is off"), (133, "there are tentative files"), (149, "n is less than -1"), (141, "power is on"), (181, "a name is not 1 .. 999"), (54, "blocks is not 0 .. 48"), (65, "there are 4 tentative files"), (77, "no empty entry is long enough"), (195, "there would be more than 16 entries"), (188, "there is no such handle"), (193, "the file has no such block"), (108, "used is not 1 .. the file's length"), (191, "there is no permanent file with the name"), (125, "there is a permanent file with that name")]
def z_Str (s : State) : Prop := ∀ q ∈ z_Strs, ∃ a : Nat, vk_R RX3 q.1 q.2 a s
def z_Th (A : Nat → Prop) (U : State) (H : Heap) : Prop := vx_Zq Bundle.tN "UNASSIGNED_STACK" Bundle.steD A U H ∧ vx_Zq Bundle.tN "SUPPRESSED_SENTINEL" Bundle.listD A U H ∧ (∀ w ∈ z_Ng, w.before #[] U = true) ∧ z_Str U
section ZC
variable {p : Program} {l : Launch} {e : Env} {R : Room} {s : State} {m : MethodId} {args : Array Value} {below : List Frame} {meth : Method} {c : Code} {cells slots : Nat} {Q : State → Prop}
theorem z_start {Hx H0 : Heap} {D : va_G} {A : Nat → Prop} {ws : va_W} {g : JFrame} (hP : va_P D vwCl ws Hx) (hS : va_S A H0 Hx []) (k : ∀ (H : Heap) (locs : List Loc), va_P D vwCl ws H → va_S A H0 H locs → W p l e R s m args below meth c H locs cells slots Q g) : W p l e R s m args below meth c Hx [] cells slots Q g := k Hx [] hP hS
end ZC
theorem z_ret {x y : Int32} (h : x = y) : Outcome.returned (some (Value.int x)) = Outcome.returned (some (Value.int y)) := by rw [h]
def zb (b : Bool) : Int32 := if b = true then 1 else 0
theorem zb_t : zb true = 1 := rfl
theorem zb_f : zb false = 0 := rfl
theorem zb_e0 (b : Bool) : (zb b = 0) = (b = false) := by cases b <;> simp [zb]
theorem zb_e1 (b : Bool) : (zb b = 1) = (b = true) := by cases b <;> simp [zb]
theorem z_nb (b : Bool) : narrow .boolean (.int (zb b)) = .int (zb b) := by cases b <;> rfl
theorem z_fb (b : Bool) : fits .boolean (.int (zb b)) = true := by cases b <;> rfl
theorem z_sub1 (x : Int32) : x + Int32.ofInt (-1) = x - 1 := by
  rw [Int32.sub_eq_add_neg]; rfl
abbrev zA : Type := Nat → Int32
/-! Row: a guarded array of n ints -/
def r_at (n : Nat) (f : zA) (i : Int32) : Int32 := if 0 ≤ i ∧ i < nI n then f i.toNatClampNeg else 0
def r_set (n : Nat) (f : zA) (i v : Int32) : zA := if 0 ≤ i ∧ i < nI n then upd f i.toNatClampNeg v else f
def r_take (n m : Nat) (f g : zA) : zA := fun j => if j < n then r_at m g (nI j) else f j
theorem r_in {n : Nat} {i : Int32} (hn : n < 2 ^ 31) (h1 : 0 ≤ i) (h2 : ¬ nI n ≤ i) : vp_in i n := by
  intro h
  rcases h with h | h
  · exact absurd h (by rw [Int32.not_lt]; exact h1)
  · apply h2
    rw [Int32.le_iff_toInt_le, nI_toInt hn]
    rw [Int32.le_iff_toInt_le] at h1
    have h3 : (0 : Int32).toInt = 0 := rfl
    rw [h3] at h1
    have : (i.toNatClampNeg : Int) = i.toInt := by
      rw [Int32.toNatClampNeg]; omega
    omega
