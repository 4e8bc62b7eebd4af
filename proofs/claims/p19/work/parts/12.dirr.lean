abbrev zD : Type := zA × zA × zA × zA × Int32
theorem z_cl_lt (p : Int32) : p.toNatClampNeg < 2 ^ 31 := by
  have h := Int32.toInt_lt p
  rw [Int32.toNatClampNeg]; omega
theorem z_c_gt {p x : Int32} {j : Nat} (hj : j < 2 ^ 31) (e : x = nI j) (c : ¬ p ≤ x) : j < p.toNatClampNeg := by
  subst e
  rw [Int32.le_iff_toInt_le, nI_toInt hj] at c
  rw [Int32.toNatClampNeg]; omega
theorem z_c_le {p x : Int32} {j : Nat} (hj : j < 2 ^ 31) (e : x = nI j) (c : p ≤ x) : p.toNatClampNeg ≤ j := by
  subst e
  rw [Int32.le_iff_toInt_le, nI_toInt hj] at c
  rw [Int32.toNatClampNeg]; omega
theorem z_c_eq {p x : Int32} {j : Nat} (hj : j ≤ p.toNatClampNeg) (e : x = nI j) (c : p ≤ x) : p.toNatClampNeg = j := by
  have h1 := z_cl_lt p
  have h2 := z_c_le (by omega) e c
  omega
theorem z_c_g {p x : Int32} {j : Nat} (hj : j ≤ p.toNatClampNeg) (e : x = nI j) (c : ¬ p ≤ x) : j + 1 ≤ p.toNatClampNeg := by
  have h1 := z_cl_lt p
  exact z_c_gt (by omega) e c
/-- the first place below N, from j on, where p holds; -1 for none -/
def z_findF (p : Nat → Bool) : Nat → Nat → Int32
  | 0, _ => -1
  | k + 1, j => if p j = true then nI j else z_findF p k (j + 1)
def z_find (p : Nat → Bool) (N j : Nat) : Int32 := z_findF p (N - j) j
theorem z_hit {p : Nat → Bool} {N j : Nat} {r x : Int32} (er : z_find p N j = r) (h : j + 1 ≤ N) (e : x = nI j) (hp : p j = true) : x = r := by
  rw [← er, e, z_find, show N - j = (N - (j + 1)) + 1 by omega, z_findF, if_pos hp]
theorem z_skip {p : Nat → Bool} {N j : Nat} {r : Int32} (er : z_find p N j = r) (h : j + 1 ≤ N) (hp : p j = false) : z_find p N (j + 1) = r := by
  rw [← er, z_find, z_find, show N - j = (N - (j + 1)) + 1 by omega, z_findF, if_neg (by rw [hp]; decide)]
theorem z_miss {p : Nat → Bool} {N j : Nat} {r : Int32} (er : z_find p N j = r) (h : N ≤ j) : (-1 : Int32) = r := by
  rw [← er, z_find, show N - j = 0 by omega, z_findF]
def d_sum (fl : zA) : Nat → Int32
  | 0 => 0
  | j + 1 => d_sum fl j + r_at 17 fl (nI j)
def d_begin (fl : zA) (n k : Int32) : Int32 := d_sum fl (min k.toNatClampNeg n.toNatClampNeg)
def d_cntF (fk : zA) (q : Int32) : Nat → Int32
  | 0 => 0
  | j + 1 => if r_at 17 fk (nI j) = q then d_cntF fk q j + 1 else d_cntF fk q j
def d_count (fk : zA) (n q : Int32) : Int32 := d_cntF fk q n.toNatClampNeg
def d_pT (fk fh : zA) (q : Int32) (j : Nat) : Bool := decide (r_at 17 fk (nI j) = 1) && decide (r_at 17 fh (nI j) = q)
def d_tent (fk fh : zA) (n q : Int32) : Int32 := z_find (d_pT fk fh q) n.toNatClampNeg 0
def d_pP (fk fn : zA) (q : Int32) (j : Nat) : Bool := decide (r_at 17 fk (nI j) = 2) && decide (r_at 17 fn (nI j) = q)
def d_perm (fk fn : zA) (n q : Int32) : Int32 := z_find (d_pP fk fn q) n.toNatClampNeg 0
def d_free (fk fh : zA) (n : Int32) : Int32 := z_find (fun j => decide (d_tent fk fh n (nI j) = -1)) 4 0
def d_pH (fk fn fh : zA) (n q : Int32) (j : Nat) : Bool := !decide (d_tent fk fh n (nI j) = -1) && decide (r_at 17 fn (d_tent fk fh n (nI j)) = q)
def d_hand (fk fn fh : zA) (n q : Int32) : Int32 := z_find (d_pH fk fn fh n q) 4 0
def d_roomF (fk fl : zA) (q : Int32) : Nat → Int32
  | 0 => -1
  | j + 1 => if r_at 17 fk (nI j) = 0 then (if r_at 17 fl (nI j) < q then d_roomF fk fl q j else if d_roomF fk fl q j = -1 then nI j else
      if r_at 17 fl (d_roomF fk fl q j) ≤ r_at 17 fl (nI j) then d_roomF fk fl q j else nI j) else d_roomF fk fl q j
def d_room (fk fl : zA) (n q : Int32) : Int32 := d_roomF fk fl q n.toNatClampNeg
def d_pG (fk : zA) (j : Nat) : Bool := decide (r_at 17 fk (nI j) = 0) && !decide (r_at 17 fk (nI (j + 1)) = 0)
def d_gap (fk : zA) (n : Int32) : Int32 := z_find (d_pG fk) (n.toNatClampNeg - 1) 0
def i_max (x y : Int32) : Int32 := if x < y then y else x
def i_min (x y : Int32) : Int32 := if y < x then y else x
/-- (longest, second) of the first j entries -/
def d_spareF (fk fl : zA) : Nat → Int32 × Int32
  | 0 => (0, 0)
  | j + 1 => (i_max (d_spareF fk fl j).1 (if r_at 17 fk (nI j) = 0 then r_at 17 fl (nI j) else 0), i_max (d_spareF fk fl j).2 (i_min (if r_at 17 fk (nI j) = 0 then r_at 17 fl (nI j) else 0) (d_spareF fk fl j).1))
def d_spare (fk fl : zA) (n : Int32) : Int32 := i_max ((d_spareF fk fl n.toNatClampNeg).1 / 2) (d_spareF fk fl n.toNatClampNeg).2
def d_longF (fk fl : zA) : Nat → Int32
  | 0 => 0
  | j + 1 => if r_at 17 fk (nI j) = 0 then i_max (d_longF fk fl j) (r_at 17 fl (nI j)) else d_longF fk fl j
def d_long (fk fl : zA) (n : Int32) : Int32 := d_longF fk fl n.toNatClampNeg
def d_empF (fk fl : zA) : Nat → Int32
  | 0 => 0
  | j + 1 => if r_at 17 fk (nI j) = 0 then d_empF fk fl j + r_at 17 fl (nI j) else d_empF fk fl j
def d_emp (fk fl : zA) (n : Int32) : Int32 := d_empF fk fl n.toNatClampNeg
theorem z_bg_s {a b x : Int32} {j : Nat} (hj : j ≤ min a.toNatClampNeg b.toNatClampNeg) (e : x = nI j) (c1 : ¬ a ≤ x) (c2 : ¬ b ≤ x) : j + 1 ≤ min a.toNatClampNeg b.toNatClampNeg := by
  have h1 := z_c_g (Nat.le_trans hj (Nat.min_le_left _ _)) e c1
  have h2 := z_c_g (Nat.le_trans hj (Nat.min_le_right _ _)) e c2
  omega
theorem z_bg_1 {a b x : Int32} {j : Nat} (hj : j ≤ min a.toNatClampNeg b.toNatClampNeg) (e : x = nI j) (c1 : a ≤ x) : min a.toNatClampNeg b.toNatClampNeg = j := by
  have h1 := z_c_eq (Nat.le_trans hj (Nat.min_le_left _ _)) e c1
  omega
theorem z_bg_2 {a b x : Int32} {j : Nat} (hj : j ≤ min a.toNatClampNeg b.toNatClampNeg) (e : x = nI j) (c1 : b ≤ x) : min a.toNatClampNeg b.toNatClampNeg = j := by
  have h1 := z_c_eq (Nat.le_trans hj (Nat.min_le_right _ _)) e c1
  omega
theorem z_c_4 {x : Int32} {j : Nat} (hj : j ≤ 4) (e : x = nI j) (c : ¬ 4 ≤ x) : j + 1 ≤ 4 := by
  have h := z_c_gt (by omega) e c
  have h2 : (4 : Int32).toNatClampNeg = 4 := rfl
  omega
theorem z_c_l4 {x : Int32} {j : Nat} (hj : j ≤ 4) (e : x = nI j) (c : 4 ≤ x) : 4 ≤ j := by
  have h := z_c_le (by omega) e c
  have h2 : (4 : Int32).toNatClampNeg = 4 := rfl
  omega
theorem z_gp_s {n x : Int32} {j : Nat} (hj : j ≤ n.toNatClampNeg - 1) (e : x = nI j) (c : ¬ n ≤ x + 1) : j + 1 ≤ n.toNatClampNeg - 1 := by
  have h0 := z_cl_lt n
  have h := z_c_gt (p := n) (j := j + 1) (by omega) (by rw [e, nI_succ]) c
  omega
theorem z_gp_e {n x : Int32} {j : Nat} (hj : j ≤ n.toNatClampNeg - 1) (e : x = nI j) (c : n ≤ x + 1) : n.toNatClampNeg - 1 ≤ j := by
  have h0 := z_cl_lt n
  have h := z_c_le (p := n) (j := j + 1) (by omega) (by rw [e, nI_succ]) c
  omega
theorem qd_X0_kindAt : yX0_kindAt.cls = RX0 ∧ yX0_kindAt.cls ≠ "java/lang/invoke/MethodHandle" ∧ yX0_kindAt.cls ≠ "java/lang/invoke/VarHandle" ∧ (parseMethodDescriptor yX0_kindAt.desc).map (fun d => d.parameters.length) = some 1 := by decide +kernel
set_option maxHeartbeats 400000 in
set_option maxRecDepth 100000 in
/-- Directory.kindAt -/
theorem c_X0_kindAt (l : Launch) (D : va_G) (cI : ClassId) (h0 : Nat) (a1 : Nat) (a2 : Nat) (a3 : Nat) (a4 : Nat) (b1 : Nat) (fk : zA) (n : Int32) (p0 : Int32) : Met l yX0_kindAt wsX0_kindAt ({ frames := 1, cells := 0, slots := 0, locals := 21 }) (z_Pr D cI [.ref h0, .int p0] [(h0, .inr (0, [.ref a1, .ref a2, .ref a3, .ref a4, .int n])), (a1, .inr (2, [.ref b1])), (b1, .inl (cI, 17, .inl fk))]) (z_Ro (some (.int (r_at 17 fk p0)))) 0 0 (fun _ => False) := by
  refine Met.ofW (cc := cX0_kindAt) (maxL := 2) (ret := (some .int)) (by decide) rfl ?_
  intro p e s m args below meth c s₁ B hml hv
  obtain ⟨rfl, hP, hK⟩ := hv
  have hx := B.exec
  have hb := B.bytes
  have hr := B.returns
  have hts := atoms_spec (ws := wsX0_kindAt) B.pre
  have hown : s.vm.findClass RX0 = some m.cls := findClass_of_methodNamed B.named
  have hlocks := B.notSynchronized
  have hP : va_P D vwCl [(h0, .inr (0, [.ref a1, .ref a2, .ref a3, .ref a4, .int n])), (a1, .inr (2, [.ref b1])), (b1, .inl (cI, 17, .inl fk))] s.heap := hP
  have hl := lv_entry ([.ref h0, .int p0]) (n := 2) (Nat.le_of_ble_eq_true rfl)
  rw [lg_entry_eq]
  generalize (lg_sl ([.ref h0, .int p0]) ++ List.replicate (2 - (lg_sl ([.ref h0, .int p0])).length) Slot.unset).toArray = ls at hl ⊢
  have hl : lv_has ls 2 [(0, .ref h0), (1, .int p0)] := hl
  have hin0 : ∀ w ∈ wsX00, w ∈ wsX0_kindAt := by decide +kernel
  have hf16 := hts (.fieldLink RX0 16 "SqueezedVolume$Directory" "kinds" "LSqueezedVolume$Row;") (by decide +kernel)
  refine lv_aload_n hx hb dX0_kindAt_0 rfl (lv_at hl 0 rfl) ?_
  refine va_get (D := D) (ci := 0) (v := .ref a1) (C := RX0) (T := TX0) (N := 5) hx hb hts hin0 hown hK hP 0 rfl rfl 0 (by decide) hf16 (fun _ h9 => h9) rfl dX0_kindAt_1 ?_
  refine lv_iload_n hx hb dX0_kindAt_4 rfl (lv_at hl 1 rfl) ?_
  refine z_callRi (va_runV (As := [.int p0]) (rest := []) ⟨hx, hb, hml, hown, hts⟩ (c_X2_at l D cI a1 b1 17 fk p0 (by decide)) (cwV 1 hts gX0_kindAt_X2_at rfl rfl rfl qd_X2_at ⟨Nat.le_of_ble_eq_true rfl, Nat.le_of_ble_eq_true rfl⟩) ⟨z_Pr_blind, va_recv hK hP (ci := 2) (q0 := 1) rfl rfl, fun U hU hW => ⟨rfl, by rw [hU]; exact hP.sub (ws' := [(a1, .inr (2, [.ref b1])), (b1, .inl (cI, 17, .inl fk))]) [1, 2] rfl, va_K.moved hW.alike hK⟩⟩ rfl rfl hl.1 rfl (lv_room (Nat.le_of_ble_eq_true rfl)) dX0_kindAt_5 ⟨Nat.le_of_ble_eq_true rfl, Nat.le_of_ble_eq_true rfl⟩) ?_
  exact W.iret (v := r_at 17 fk p0) hx hb hr (fun t ht hW => ⟨z_ret rfl, ht⟩) (fun _ h => nomatch h) dX0_kindAt_8
theorem qd_X0_lengthAt : yX0_lengthAt.cls = RX0 ∧ yX0_lengthAt.cls ≠ "java/lang/invoke/MethodHandle" ∧ yX0_lengthAt.cls ≠ "java/lang/invoke/VarHandle" ∧ (parseMethodDescriptor yX0_lengthAt.desc).map (fun d => d.parameters.length) = some 1 := by decide +kernel
set_option maxHeartbeats 400000 in
set_option maxRecDepth 100000 in
/-- Directory.lengthAt -/
theorem c_X0_lengthAt (l : Launch) (D : va_G) (cI : ClassId) (h0 : Nat) (a1 : Nat) (a2 : Nat) (a3 : Nat) (a4 : Nat) (b2 : Nat) (fl : zA) (n : Int32) (p0 : Int32) : Met l yX0_lengthAt wsX0_lengthAt ({ frames := 1, cells := 0, slots := 0, locals := 21 }) (z_Pr D cI [.ref h0, .int p0] [(h0, .inr (0, [.ref a1, .ref a2, .ref a3, .ref a4, .int n])), (a2, .inr (2, [.ref b2])), (b2, .inl (cI, 17, .inl fl))]) (z_Ro (some (.int (r_at 17 fl p0)))) 0 0 (fun _ => False) := by
  refine Met.ofW (cc := cX0_lengthAt) (maxL := 2) (ret := (some .int)) (by decide) rfl ?_
  intro p e s m args below meth c s₁ B hml hv
  obtain ⟨rfl, hP, hK⟩ := hv
  have hx := B.exec
  have hb := B.bytes
  have hr := B.returns
  have hts := atoms_spec (ws := wsX0_lengthAt) B.pre
  have hown : s.vm.findClass RX0 = some m.cls := findClass_of_methodNamed B.named
  have hlocks := B.notSynchronized
  have hP : va_P D vwCl [(h0, .inr (0, [.ref a1, .ref a2, .ref a3, .ref a4, .int n])), (a2, .inr (2, [.ref b2])), (b2, .inl (cI, 17, .inl fl))] s.heap := hP
  have hl := lv_entry ([.ref h0, .int p0]) (n := 2) (Nat.le_of_ble_eq_true rfl)
  rw [lg_entry_eq]
  generalize (lg_sl ([.ref h0, .int p0]) ++ List.replicate (2 - (lg_sl ([.ref h0, .int p0])).length) Slot.unset).toArray = ls at hl ⊢
  have hl : lv_has ls 2 [(0, .ref h0), (1, .int p0)] := hl
  have hin0 : ∀ w ∈ wsX00, w ∈ wsX0_lengthAt := by decide +kernel
  have hf20 := hts (.fieldLink RX0 20 "SqueezedVolume$Directory" "lengths" "LSqueezedVolume$Row;") (by decide +kernel)
  refine lv_aload_n hx hb dX0_lengthAt_0 rfl (lv_at hl 0 rfl) ?_
  refine va_get (D := D) (ci := 0) (v := .ref a2) (C := RX0) (T := TX0) (N := 5) hx hb hts hin0 hown hK hP 0 rfl rfl 1 (by decide) hf20 (fun _ h9 => h9) rfl dX0_lengthAt_1 ?_
  refine lv_iload_n hx hb dX0_lengthAt_4 rfl (lv_at hl 1 rfl) ?_
  refine z_callRi (va_runV (As := [.int p0]) (rest := []) ⟨hx, hb, hml, hown, hts⟩ (c_X2_at l D cI a2 b2 17 fl p0 (by decide)) (cwV 1 hts gX0_lengthAt_X2_at rfl rfl rfl qd_X2_at ⟨Nat.le_of_ble_eq_true rfl, Nat.le_of_ble_eq_true rfl⟩) ⟨z_Pr_blind, va_recv hK hP (ci := 2) (q0 := 1) rfl rfl, fun U hU hW => ⟨rfl, by rw [hU]; exact hP.sub (ws' := [(a2, .inr (2, [.ref b2])), (b2, .inl (cI, 17, .inl fl))]) [1, 2] rfl, va_K.moved hW.alike hK⟩⟩ rfl rfl hl.1 rfl (lv_room (Nat.le_of_ble_eq_true rfl)) dX0_lengthAt_5 ⟨Nat.le_of_ble_eq_true rfl, Nat.le_of_ble_eq_true rfl⟩) ?_
  exact W.iret (v := r_at 17 fl p0) hx hb hr (fun t ht hW => ⟨z_ret rfl, ht⟩) (fun _ h => nomatch h) dX0_lengthAt_8
theorem qd_X0_nameAt : yX0_nameAt.cls = RX0 ∧ yX0_nameAt.cls ≠ "java/lang/invoke/MethodHandle" ∧ yX0_nameAt.cls ≠ "java/lang/invoke/VarHandle" ∧ (parseMethodDescriptor yX0_nameAt.desc).map (fun d => d.parameters.length) = some 1 := by decide +kernel
set_option maxHeartbeats 400000 in
set_option maxRecDepth 100000 in
/-- Directory.nameAt -/
theorem c_X0_nameAt (l : Launch) (D : va_G) (cI : ClassId) (h0 : Nat) (a1 : Nat) (a2 : Nat) (a3 : Nat) (a4 : Nat) (b3 : Nat) (fn : zA) (n : Int32) (p0 : Int32) : Met l yX0_nameAt wsX0_nameAt ({ frames := 1, cells := 0, slots := 0, locals := 21 }) (z_Pr D cI [.ref h0, .int p0] [(h0, .inr (0, [.ref a1, .ref a2, .ref a3, .ref a4, .int n])), (a3, .inr (2, [.ref b3])), (b3, .inl (cI, 17, .inl fn))]) (z_Ro (some (.int (r_at 17 fn p0)))) 0 0 (fun _ => False) := by
  refine Met.ofW (cc := cX0_nameAt) (maxL := 2) (ret := (some .int)) (by decide) rfl ?_
  intro p e s m args below meth c s₁ B hml hv
  obtain ⟨rfl, hP, hK⟩ := hv
  have hx := B.exec
  have hb := B.bytes
  have hr := B.returns
  have hts := atoms_spec (ws := wsX0_nameAt) B.pre
  have hown : s.vm.findClass RX0 = some m.cls := findClass_of_methodNamed B.named
  have hlocks := B.notSynchronized
  have hP : va_P D vwCl [(h0, .inr (0, [.ref a1, .ref a2, .ref a3, .ref a4, .int n])), (a3, .inr (2, [.ref b3])), (b3, .inl (cI, 17, .inl fn))] s.heap := hP
  have hl := lv_entry ([.ref h0, .int p0]) (n := 2) (Nat.le_of_ble_eq_true rfl)
  rw [lg_entry_eq]
  generalize (lg_sl ([.ref h0, .int p0]) ++ List.replicate (2 - (lg_sl ([.ref h0, .int p0])).length) Slot.unset).toArray = ls at hl ⊢
  have hl : lv_has ls 2 [(0, .ref h0), (1, .int p0)] := hl
  have hin0 : ∀ w ∈ wsX00, w ∈ wsX0_nameAt := by decide +kernel
  have hf23 := hts (.fieldLink RX0 23 "SqueezedVolume$Directory" "names" "LSqueezedVolume$Row;") (by decide +kernel)
  refine lv_aload_n hx hb dX0_nameAt_0 rfl (lv_at hl 0 rfl) ?_
  refine va_get (D := D) (ci := 0) (v := .ref a3) (C := RX0) (T := TX0) (N := 5) hx hb hts hin0 hown hK hP 0 rfl rfl 2 (by decide) hf23 (fun _ h9 => h9) rfl dX0_nameAt_1 ?_
  refine lv_iload_n hx hb dX0_nameAt_4 rfl (lv_at hl 1 rfl) ?_
  refine z_callRi (va_runV (As := [.int p0]) (rest := []) ⟨hx, hb, hml, hown, hts⟩ (c_X2_at l D cI a3 b3 17 fn p0 (by decide)) (cwV 1 hts gX0_nameAt_X2_at rfl rfl rfl qd_X2_at ⟨Nat.le_of_ble_eq_true rfl, Nat.le_of_ble_eq_true rfl⟩) ⟨z_Pr_blind, va_recv hK hP (ci := 2) (q0 := 1) rfl rfl, fun U hU hW => ⟨rfl, by rw [hU]; exact hP.sub (ws' := [(a3, .inr (2, [.ref b3])), (b3, .inl (cI, 17, .inl fn))]) [1, 2] rfl, va_K.moved hW.alike hK⟩⟩ rfl rfl hl.1 rfl (lv_room (Nat.le_of_ble_eq_true rfl)) dX0_nameAt_5 ⟨Nat.le_of_ble_eq_true rfl, Nat.le_of_ble_eq_true rfl⟩) ?_
  exact W.iret (v := r_at 17 fn p0) hx hb hr (fun t ht hW => ⟨z_ret rfl, ht⟩) (fun _ h => nomatch h) dX0_nameAt_8
theorem qd_X0_handleAt : yX0_handleAt.cls = RX0 ∧ yX0_handleAt.cls ≠ "java/lang/invoke/MethodHandle" ∧ yX0_handleAt.cls ≠ "java/lang/invoke/VarHandle" ∧ (parseMethodDescriptor yX0_handleAt.desc).map (fun d => d.parameters.length) = some 1 := by decide +kernel
set_option maxHeartbeats 400000 in
set_option maxRecDepth 100000 in
/-- Directory.handleAt -/
theorem c_X0_handleAt (l : Launch) (D : va_G) (cI : ClassId) (h0 : Nat) (a1 : Nat) (a2 : Nat) (a3 : Nat) (a4 : Nat) (b4 : Nat) (fh : zA) (n : Int32) (p0 : Int32) : Met l yX0_handleAt wsX0_handleAt ({ frames := 1, cells := 0, slots := 0, locals := 21 }) (z_Pr D cI [.ref h0, .int p0] [(h0, .inr (0, [.ref a1, .ref a2, .ref a3, .ref a4, .int n])), (a4, .inr (2, [.ref b4])), (b4, .inl (cI, 17, .inl fh))]) (z_Ro (some (.int (r_at 17 fh p0)))) 0 0 (fun _ => False) := by
  refine Met.ofW (cc := cX0_handleAt) (maxL := 2) (ret := (some .int)) (by decide) rfl ?_
  intro p e s m args below meth c s₁ B hml hv
  obtain ⟨rfl, hP, hK⟩ := hv
  have hx := B.exec
  have hb := B.bytes
  have hr := B.returns
  have hts := atoms_spec (ws := wsX0_handleAt) B.pre
  have hown : s.vm.findClass RX0 = some m.cls := findClass_of_methodNamed B.named
  have hlocks := B.notSynchronized
  have hP : va_P D vwCl [(h0, .inr (0, [.ref a1, .ref a2, .ref a3, .ref a4, .int n])), (a4, .inr (2, [.ref b4])), (b4, .inl (cI, 17, .inl fh))] s.heap := hP
  have hl := lv_entry ([.ref h0, .int p0]) (n := 2) (Nat.le_of_ble_eq_true rfl)
  rw [lg_entry_eq]
  generalize (lg_sl ([.ref h0, .int p0]) ++ List.replicate (2 - (lg_sl ([.ref h0, .int p0])).length) Slot.unset).toArray = ls at hl ⊢
  have hl : lv_has ls 2 [(0, .ref h0), (1, .int p0)] := hl
  have hin0 : ∀ w ∈ wsX00, w ∈ wsX0_handleAt := by decide +kernel
  have hf26 := hts (.fieldLink RX0 26 "SqueezedVolume$Directory" "handles" "LSqueezedVolume$Row;") (by decide +kernel)
  refine lv_aload_n hx hb dX0_handleAt_0 rfl (lv_at hl 0 rfl) ?_
  refine va_get (D := D) (ci := 0) (v := .ref a4) (C := RX0) (T := TX0) (N := 5) hx hb hts hin0 hown hK hP 0 rfl rfl 3 (by decide) hf26 (fun _ h9 => h9) rfl dX0_handleAt_1 ?_
  refine lv_iload_n hx hb dX0_handleAt_4 rfl (lv_at hl 1 rfl) ?_
  refine z_callRi (va_runV (As := [.int p0]) (rest := []) ⟨hx, hb, hml, hown, hts⟩ (c_X2_at l D cI a4 b4 17 fh p0 (by decide)) (cwV 1 hts gX0_handleAt_X2_at rfl rfl rfl qd_X2_at ⟨Nat.le_of_ble_eq_true rfl, Nat.le_of_ble_eq_true rfl⟩) ⟨z_Pr_blind, va_recv hK hP (ci := 2) (q0 := 1) rfl rfl, fun U hU hW => ⟨rfl, by rw [hU]; exact hP.sub (ws' := [(a4, .inr (2, [.ref b4])), (b4, .inl (cI, 17, .inl fh))]) [1, 2] rfl, va_K.moved hW.alike hK⟩⟩ rfl rfl hl.1 rfl (lv_room (Nat.le_of_ble_eq_true rfl)) dX0_handleAt_5 ⟨Nat.le_of_ble_eq_true rfl, Nat.le_of_ble_eq_true rfl⟩) ?_
  exact W.iret (v := r_at 17 fh p0) hx hb hr (fun t ht hW => ⟨z_ret rfl, ht⟩) (fun _ h => nomatch h) dX0_handleAt_8
theorem qd_X0_count : yX0_count.cls = RX0 ∧ yX0_count.cls ≠ "java/lang/invoke/MethodHandle" ∧ yX0_count.cls ≠ "java/lang/invoke/VarHandle" ∧ (parseMethodDescriptor yX0_count.desc).map (fun d => d.parameters.length) = some 0 := by decide +kernel
set_option maxHeartbeats 400000 in
set_option maxRecDepth 100000 in
/-- Directory.count -/
theorem c_X0_count (l : Launch) (D : va_G) (cI : ClassId) (h0 : Nat) (a1 : Nat) (a2 : Nat) (a3 : Nat) (a4 : Nat) (n : Int32) : Met l yX0_count wsX0_count ({ frames := 0, cells := 0, slots := 0, locals := 0 }) (z_Pr D cI [.ref h0] [(h0, .inr (0, [.ref a1, .ref a2, .ref a3, .ref a4, .int n]))]) (z_Ro (some (.int n))) 0 0 (fun _ => False) := by
  refine Met.ofW (cc := cX0_count) (maxL := 1) (ret := (some .int)) (by decide) rfl ?_
  intro p e s m args below meth c s₁ B hml hv
  obtain ⟨rfl, hP, hK⟩ := hv
  have hx := B.exec
  have hb := B.bytes
  have hr := B.returns
  have hts := atoms_spec (ws := wsX0_count) B.pre
  have hown : s.vm.findClass RX0 = some m.cls := findClass_of_methodNamed B.named
  have hlocks := B.notSynchronized
  have hP : va_P D vwCl [(h0, .inr (0, [.ref a1, .ref a2, .ref a3, .ref a4, .int n]))] s.heap := hP
  have hl := lv_entry ([.ref h0]) (n := 1) (Nat.le_of_ble_eq_true rfl)
  rw [lg_entry_eq]
  generalize (lg_sl ([.ref h0]) ++ List.replicate (1 - (lg_sl ([.ref h0])).length) Slot.unset).toArray = ls at hl ⊢
  have hl : lv_has ls 1 [(0, .ref h0)] := hl
  have hin0 : ∀ w ∈ wsX00, w ∈ wsX0_count := by decide +kernel
  have hf29 := hts (.fieldLink RX0 29 "SqueezedVolume$Directory" "count" "I") (by decide +kernel)
  refine lv_aload_n hx hb dX0_count_0 rfl (lv_at hl 0 rfl) ?_
  refine va_get (D := D) (ci := 0) (v := .int n) (C := RX0) (T := TX0) (N := 5) hx hb hts hin0 hown hK hP 0 rfl rfl 4 (by decide) hf29 (fun _ h9 => h9) rfl dX0_count_1 ?_
  exact W.iret (v := n) hx hb hr (fun t ht hW => ⟨z_ret rfl, ht⟩) (fun _ h => nomatch h) dX0_count_4
theorem qd_X0_beginAt : yX0_beginAt.cls = RX0 ∧ yX0_beginAt.cls ≠ "java/lang/invoke/MethodHandle" ∧ yX0_beginAt.cls ≠ "java/lang/invoke/VarHandle" ∧ (parseMethodDescriptor yX0_beginAt.desc).map (fun d => d.parameters.length) = some 1 := by decide +kernel
set_option maxHeartbeats 400000 in
set_option maxRecDepth 100000 in
/-- Directory.beginAt -/
theorem c_X0_beginAt (l : Launch) (D : va_G) (cI : ClassId) (h0 : Nat) (a1 : Nat) (a2 : Nat) (a3 : Nat) (a4 : Nat) (b2 : Nat) (fl : zA) (n : Int32) (p0 : Int32) : Met l yX0_beginAt wsX0_beginAt ({ frames := 1, cells := 0, slots := 0, locals := 21 }) (z_Pr D cI [.ref h0, .int p0] [(h0, .inr (0, [.ref a1, .ref a2, .ref a3, .ref a4, .int n])), (a2, .inr (2, [.ref b2])), (b2, .inl (cI, 17, .inl fl))]) (z_Ro (some (.int (d_begin fl n p0)))) 0 0 (fun _ => False) := by
  refine Met.ofW (cc := cX0_beginAt) (maxL := 4) (ret := (some .int)) (by decide) rfl ?_
  intro p e s m args below meth c s₁ B hml hv
  obtain ⟨rfl, hP, hK⟩ := hv
  have hx := B.exec
  have hb := B.bytes
  have hr := B.returns
  have hts := atoms_spec (ws := wsX0_beginAt) B.pre
  have hown : s.vm.findClass RX0 = some m.cls := findClass_of_methodNamed B.named
  have hlocks := B.notSynchronized
  have hP : va_P D vwCl [(h0, .inr (0, [.ref a1, .ref a2, .ref a3, .ref a4, .int n])), (a2, .inr (2, [.ref b2])), (b2, .inl (cI, 17, .inl fl))] s.heap := hP
  have hl := lv_entry ([.ref h0, .int p0]) (n := 4) (Nat.le_of_ble_eq_true rfl)
  rw [lg_entry_eq]
  generalize (lg_sl ([.ref h0, .int p0]) ++ List.replicate (4 - (lg_sl ([.ref h0, .int p0])).length) Slot.unset).toArray = ls at hl ⊢
  have hl : lv_has ls 4 [(0, .ref h0), (1, .int p0)] := hl
  have hin0 : ∀ w ∈ wsX00, w ∈ wsX0_beginAt := by decide +kernel
  have hf29 := hts (.fieldLink RX0 29 "SqueezedVolume$Directory" "count" "I") (by decide +kernel)
  have hf20 := hts (.fieldLink RX0 20 "SqueezedVolume$Directory" "lengths" "LSqueezedVolume$Row;") (by decide +kernel)
  have L4 : ∀ (k : Nat) (j : Nat) (x3 : Int32) (x2 : Int32), (j ≤ min p0.toNatClampNeg n.toNatClampNeg) → ((min p0.toNatClampNeg n.toNatClampNeg) + 1 ≤ j + k) → (x3 = nI j) → (x2 = d_sum fl j) → ∀ (ls : Array Slot), lv_has ls 4 [(0, .ref h0), (1, .int p0), (2, .int x2), (3, .int x3)] → W p l e ({ frames := 1, cells := 0, slots := 0, locals := 21 }) s m ([.ref h0, .int p0] : List Value).toArray below meth c s.heap [] 0 0 (MQ below (z_Ro (some (.int (d_begin fl n p0)))) ([.ref h0, .int p0] : List Value).toArray s 0 0 (fun _ => False)) (F0 m 4 ls []) := by
    intro k
    induction k with
    | zero =>
      intro j x3 x2 hj hk ex3 ex2
      exfalso; omega
    | succ k ih =>
      intro j x3 x2 hj hk ex3 ex2
      intro ls hl
      refine lv_iload_n hx hb dX0_beginAt_4 rfl (lv_at hl 3 rfl) ?_
      refine lv_iload_n hx hb dX0_beginAt_5 rfl (lv_at hl 1 rfl) ?_
      refine lv_icmp_ge (tgt := 34) hx hb dX0_beginAt_6 (by decide) (fun c_1 => ?_) (fun c_1 => ?_)
      · skip
        refine lv_iload_n hx hb dX0_beginAt_34 rfl (lv_at hl 2 rfl) ?_
        exact W.iret (v := x2) hx hb hr (fun t ht hW => ⟨z_ret (by rw [ex2, d_begin, z_bg_1 hj ex3 c_1]), ht⟩) (fun _ h => nomatch h) dX0_beginAt_35
      · skip
        refine lv_iload_n hx hb dX0_beginAt_9 rfl (lv_at hl 3 rfl) ?_
        refine lv_aload_n hx hb dX0_beginAt_10 rfl (lv_at hl 0 rfl) ?_
        refine va_get (D := D) (ci := 0) (v := .int n) (C := RX0) (T := TX0) (N := 5) hx hb hts hin0 hown hK hP 0 rfl rfl 4 (by decide) hf29 (fun _ h9 => h9) rfl dX0_beginAt_11 ?_
        refine lv_icmp_ge (tgt := 34) hx hb dX0_beginAt_14 (by decide) (fun c_2 => ?_) (fun c_2 => ?_)
        · skip
          refine lv_iload_n hx hb dX0_beginAt_34 rfl (lv_at hl 2 rfl) ?_
          exact W.iret (v := x2) hx hb hr (fun t ht hW => ⟨z_ret (by rw [ex2, d_begin, z_bg_2 hj ex3 c_2]), ht⟩) (fun _ h => nomatch h) dX0_beginAt_35
        · skip
          refine lv_iload_n hx hb dX0_beginAt_17 rfl (lv_at hl 2 rfl) ?_
          refine lv_aload_n hx hb dX0_beginAt_18 rfl (lv_at hl 0 rfl) ?_
          refine va_get (D := D) (ci := 0) (v := .ref a2) (C := RX0) (T := TX0) (N := 5) hx hb hts hin0 hown hK hP 0 rfl rfl 1 (by decide) hf20 (fun _ h9 => h9) rfl dX0_beginAt_19 ?_
          refine lv_iload_n hx hb dX0_beginAt_22 rfl (lv_at hl 3 rfl) ?_
          refine z_callRi (va_runV (As := [.int x3]) (rest := [.int x2]) ⟨hx, hb, hml, hown, hts⟩ (c_X2_at l D cI a2 b2 17 fl x3 (by decide)) (cwV 1 hts gX0_beginAt_X2_at rfl rfl rfl qd_X2_at ⟨Nat.le_of_ble_eq_true rfl, Nat.le_of_ble_eq_true rfl⟩) ⟨z_Pr_blind, va_recv hK hP (ci := 2) (q0 := 1) rfl rfl, fun U hU hW => ⟨rfl, by rw [hU]; exact hP.sub (ws' := [(a2, .inr (2, [.ref b2])), (b2, .inl (cI, 17, .inl fl))]) [1, 2] rfl, va_K.moved hW.alike hK⟩⟩ rfl rfl hl.1 rfl (lv_room (Nat.le_of_ble_eq_true rfl)) dX0_beginAt_23 ⟨Nat.le_of_ble_eq_true rfl, Nat.le_of_ble_eq_true rfl⟩) ?_
          refine lv_iadd hx hb dX0_beginAt_26 ?_
          refine lv_istore_n (lv' := [(2, .int (x2 + (r_at 17 fl x3))), (0, .ref h0), (1, .int p0), (3, .int x3)]) hx hb dX0_beginAt_27 rfl hl (by decide) rfl (fun ls hl => ?_)
          refine lv_iinc (v := x3 + 1) (lv' := [(3, .int (x3 + 1)), (2, .int (x2 + (r_at 17 fl x3))), (0, .ref h0), (1, .int p0)]) hx hb dX0_beginAt_28 hl (k := 3) rfl (by rfl) (by decide) rfl (fun ls hl => ?_)
          refine lv_goto (tgt := 4) hx hb dX0_beginAt_31 (by decide) ?_
          exact ih (j + 1) (x3 + 1) (x2 + (r_at 17 fl x3)) (z_bg_s hj ex3 c_1 c_2) (by omega) (by rw [ex3, nI_succ]) (by subst ex2 ex3; rfl) ls (lv_sub hl [2, 3, 1, 0] rfl)
  refine lv_iconst (v := 0) hx hb dX0_beginAt_0 (by decide) ?_
  refine lv_istore_n (lv' := [(2, .int 0), (0, .ref h0), (1, .int p0)]) hx hb dX0_beginAt_1 rfl hl (by decide) rfl (fun ls hl => ?_)
  refine lv_iconst (v := 0) hx hb dX0_beginAt_2 (by decide) ?_
  refine lv_istore_n (lv' := [(3, .int 0), (2, .int 0), (0, .ref h0), (1, .int p0)]) hx hb dX0_beginAt_3 rfl hl (by decide) rfl (fun ls hl => ?_)
  exact L4 ((min p0.toNatClampNeg n.toNatClampNeg) + 1) 0 0 0 (Nat.zero_le _) (by omega) nI_0.symm rfl ls (lv_sub hl [2, 3, 1, 0] rfl)
theorem qd_X0_countOf : yX0_countOf.cls = RX0 ∧ yX0_countOf.cls ≠ "java/lang/invoke/MethodHandle" ∧ yX0_countOf.cls ≠ "java/lang/invoke/VarHandle" ∧ (parseMethodDescriptor yX0_countOf.desc).map (fun d => d.parameters.length) = some 1 := by decide +kernel
set_option maxHeartbeats 400000 in
set_option maxRecDepth 100000 in
/-- Directory.countOf -/
theorem c_X0_countOf (l : Launch) (D : va_G) (cI : ClassId) (h0 : Nat) (a1 : Nat) (a2 : Nat) (a3 : Nat) (a4 : Nat) (b1 : Nat) (fk : zA) (n : Int32) (p0 : Int32) : Met l yX0_countOf wsX0_countOf ({ frames := 1, cells := 0, slots := 0, locals := 21 }) (z_Pr D cI [.ref h0, .int p0] [(h0, .inr (0, [.ref a1, .ref a2, .ref a3, .ref a4, .int n])), (a1, .inr (2, [.ref b1])), (b1, .inl (cI, 17, .inl fk))]) (z_Ro (some (.int (d_count fk n p0)))) 0 0 (fun _ => False) := by
  refine Met.ofW (cc := cX0_countOf) (maxL := 4) (ret := (some .int)) (by decide) rfl ?_
  intro p e s m args below meth c s₁ B hml hv
  obtain ⟨rfl, hP, hK⟩ := hv
  have hx := B.exec
  have hb := B.bytes
  have hr := B.returns
  have hts := atoms_spec (ws := wsX0_countOf) B.pre
  have hown : s.vm.findClass RX0 = some m.cls := findClass_of_methodNamed B.named
  have hlocks := B.notSynchronized
  have hP : va_P D vwCl [(h0, .inr (0, [.ref a1, .ref a2, .ref a3, .ref a4, .int n])), (a1, .inr (2, [.ref b1])), (b1, .inl (cI, 17, .inl fk))] s.heap := hP
  have hl := lv_entry ([.ref h0, .int p0]) (n := 4) (Nat.le_of_ble_eq_true rfl)
  rw [lg_entry_eq]
  generalize (lg_sl ([.ref h0, .int p0]) ++ List.replicate (4 - (lg_sl ([.ref h0, .int p0])).length) Slot.unset).toArray = ls at hl ⊢
  have hl : lv_has ls 4 [(0, .ref h0), (1, .int p0)] := hl
  have hin0 : ∀ w ∈ wsX00, w ∈ wsX0_countOf := by decide +kernel
  have hf29 := hts (.fieldLink RX0 29 "SqueezedVolume$Directory" "count" "I") (by decide +kernel)
  have hf16 := hts (.fieldLink RX0 16 "SqueezedVolume$Directory" "kinds" "LSqueezedVolume$Row;") (by decide +kernel)
  have L4 : ∀ (k : Nat) (j : Nat) (x3 : Int32) (x2 : Int32), (j ≤ n.toNatClampNeg) → (n.toNatClampNeg + 1 ≤ j + k) → (x3 = nI j) → (x2 = d_cntF fk p0 j) → ∀ (ls : Array Slot), lv_has ls 4 [(0, .ref h0), (1, .int p0), (2, .int x2), (3, .int x3)] → W p l e ({ frames := 1, cells := 0, slots := 0, locals := 21 }) s m ([.ref h0, .int p0] : List Value).toArray below meth c s.heap [] 0 0 (MQ below (z_Ro (some (.int (d_count fk n p0)))) ([.ref h0, .int p0] : List Value).toArray s 0 0 (fun _ => False)) (F0 m 4 ls []) := by
    intro k
    induction k with
    | zero =>
      intro j x3 x2 hj hk ex3 ex2
      exfalso; omega
    | succ k ih =>
      intro j x3 x2 hj hk ex3 ex2
      intro ls hl
      refine lv_iload_n hx hb dX0_countOf_4 rfl (lv_at hl 3 rfl) ?_
      refine lv_aload_n hx hb dX0_countOf_5 rfl (lv_at hl 0 rfl) ?_
      refine va_get (D := D) (ci := 0) (v := .int n) (C := RX0) (T := TX0) (N := 5) hx hb hts hin0 hown hK hP 0 rfl rfl 4 (by decide) hf29 (fun _ h9 => h9) rfl dX0_countOf_6 ?_
      refine lv_icmp_ge (tgt := 33) hx hb dX0_countOf_9 (by decide) (fun c_1 => ?_) (fun c_1 => ?_)
      · skip
        refine lv_iload_n hx hb dX0_countOf_33 rfl (lv_at hl 2 rfl) ?_
        exact W.iret (v := x2) hx hb hr (fun t ht hW => ⟨z_ret (by rw [ex2, d_count, z_c_eq hj ex3 c_1]), ht⟩) (fun _ h => nomatch h) dX0_countOf_34
      · skip
        refine lv_aload_n hx hb dX0_countOf_12 rfl (lv_at hl 0 rfl) ?_
        refine va_get (D := D) (ci := 0) (v := .ref a1) (C := RX0) (T := TX0) (N := 5) hx hb hts hin0 hown hK hP 0 rfl rfl 0 (by decide) hf16 (fun _ h9 => h9) rfl dX0_countOf_13 ?_
        refine lv_iload_n hx hb dX0_countOf_16 rfl (lv_at hl 3 rfl) ?_
        refine z_callRi (va_runV (As := [.int x3]) (rest := []) ⟨hx, hb, hml, hown, hts⟩ (c_X2_at l D cI a1 b1 17 fk x3 (by decide)) (cwV 1 hts gX0_countOf_X2_at rfl rfl rfl qd_X2_at ⟨Nat.le_of_ble_eq_true rfl, Nat.le_of_ble_eq_true rfl⟩) ⟨z_Pr_blind, va_recv hK hP (ci := 2) (q0 := 1) rfl rfl, fun U hU hW => ⟨rfl, by rw [hU]; exact hP.sub (ws' := [(a1, .inr (2, [.ref b1])), (b1, .inl (cI, 17, .inl fk))]) [1, 2] rfl, va_K.moved hW.alike hK⟩⟩ rfl rfl hl.1 rfl (lv_room (Nat.le_of_ble_eq_true rfl)) dX0_countOf_17 ⟨Nat.le_of_ble_eq_true rfl, Nat.le_of_ble_eq_true rfl⟩) ?_
        refine lv_iload_n hx hb dX0_countOf_20 rfl (lv_at hl 1 rfl) ?_
        refine lv_icmp_ne (tgt := 27) hx hb dX0_countOf_21 (by decide) (fun c_2 => ?_) (fun c_2 => ?_)
        · skip
          refine lv_iinc (v := x3 + 1) (lv' := [(3, .int (x3 + 1)), (0, .ref h0), (1, .int p0), (2, .int x2)]) hx hb dX0_countOf_27 hl (k := 3) rfl (by rfl) (by decide) rfl (fun ls hl => ?_)
          refine lv_goto (tgt := 4) hx hb dX0_countOf_30 (by decide) ?_
          exact ih (j + 1) (x3 + 1) x2 (z_c_g hj ex3 c_1) (by omega) (by rw [ex3, nI_succ]) (by subst ex2 ex3; simp only [d_cntF, if_neg c_2]) ls (lv_sub hl [1, 2, 3, 0] rfl)
        · skip
          refine lv_iinc (v := x2 + 1) (lv' := [(2, .int (x2 + 1)), (0, .ref h0), (1, .int p0), (3, .int x3)]) hx hb dX0_countOf_24 hl (k := 2) rfl (by rfl) (by decide) rfl (fun ls hl => ?_)
          refine lv_iinc (v := x3 + 1) (lv' := [(3, .int (x3 + 1)), (2, .int (x2 + 1)), (0, .ref h0), (1, .int p0)]) hx hb dX0_countOf_27 hl (k := 3) rfl (by rfl) (by decide) rfl (fun ls hl => ?_)
          refine lv_goto (tgt := 4) hx hb dX0_countOf_30 (by decide) ?_
          exact ih (j + 1) (x3 + 1) (x2 + 1) (z_c_g hj ex3 c_1) (by omega) (by rw [ex3, nI_succ]) (by subst ex2 ex3; simp only [d_cntF, if_pos c_2]) ls (lv_sub hl [2, 3, 1, 0] rfl)
  refine lv_iconst (v := 0) hx hb dX0_countOf_0 (by decide) ?_
  refine lv_istore_n (lv' := [(2, .int 0), (0, .ref h0), (1, .int p0)]) hx hb dX0_countOf_1 rfl hl (by decide) rfl (fun ls hl => ?_)
  refine lv_iconst (v := 0) hx hb dX0_countOf_2 (by decide) ?_
  refine lv_istore_n (lv' := [(3, .int 0), (2, .int 0), (0, .ref h0), (1, .int p0)]) hx hb dX0_countOf_3 rfl hl (by decide) rfl (fun ls hl => ?_)
  exact L4 (n.toNatClampNeg + 1) 0 0 0 (Nat.zero_le _) (by omega) nI_0.symm rfl ls (lv_sub hl [2, 3, 1, 0] rfl)
theorem qd_X0_findTentative : yX0_findTentative.cls = RX0 ∧ yX0_findTentative.cls ≠ "java/lang/invoke/MethodHandle" ∧ yX0_findTentative.cls ≠ "java/lang/invoke/VarHandle" ∧ (parseMethodDescriptor yX0_findTentative.desc).map (fun d => d.parameters.length) = some 1 := by decide +kernel
set_option maxHeartbeats 400000 in
set_option maxRecDepth 100000 in
/-- Directory.findTentative -/
theorem c_X0_findTentative (l : Launch) (D : va_G) (cI : ClassId) (h0 : Nat) (a1 : Nat) (a2 : Nat) (a3 : Nat) (a4 : Nat) (b1 : Nat) (b4 : Nat) (fk : zA) (fh : zA) (n : Int32) (p0 : Int32) : Met l yX0_findTentative wsX0_findTentative ({ frames := 1, cells := 0, slots := 0, locals := 21 }) (z_Pr D cI [.ref h0, .int p0] [(h0, .inr (0, [.ref a1, .ref a2, .ref a3, .ref a4, .int n])), (a1, .inr (2, [.ref b1])), (b1, .inl (cI, 17, .inl fk)), (a4, .inr (2, [.ref b4])), (b4, .inl (cI, 17, .inl fh))]) (z_Ro (some (.int (d_tent fk fh n p0)))) 0 0 (fun _ => False) := by
  refine Met.ofW (cc := cX0_findTentative) (maxL := 3) (ret := (some .int)) (by decide) rfl ?_
  intro p e s m args below meth c s₁ B hml hv
  obtain ⟨rfl, hP, hK⟩ := hv
  have hx := B.exec
  have hb := B.bytes
  have hr := B.returns
  have hts := atoms_spec (ws := wsX0_findTentative) B.pre
  have hown : s.vm.findClass RX0 = some m.cls := findClass_of_methodNamed B.named
  have hlocks := B.notSynchronized
  have hP : va_P D vwCl [(h0, .inr (0, [.ref a1, .ref a2, .ref a3, .ref a4, .int n])), (a1, .inr (2, [.ref b1])), (b1, .inl (cI, 17, .inl fk)), (a4, .inr (2, [.ref b4])), (b4, .inl (cI, 17, .inl fh))] s.heap := hP
  have hl := lv_entry ([.ref h0, .int p0]) (n := 3) (Nat.le_of_ble_eq_true rfl)
  rw [lg_entry_eq]
  generalize (lg_sl ([.ref h0, .int p0]) ++ List.replicate (3 - (lg_sl ([.ref h0, .int p0])).length) Slot.unset).toArray = ls at hl ⊢
  have hl : lv_has ls 3 [(0, .ref h0), (1, .int p0)] := hl
  have hin0 : ∀ w ∈ wsX00, w ∈ wsX0_findTentative := by decide +kernel
  have hf29 := hts (.fieldLink RX0 29 "SqueezedVolume$Directory" "count" "I") (by decide +kernel)
  have hf16 := hts (.fieldLink RX0 16 "SqueezedVolume$Directory" "kinds" "LSqueezedVolume$Row;") (by decide +kernel)
  have hf26 := hts (.fieldLink RX0 26 "SqueezedVolume$Directory" "handles" "LSqueezedVolume$Row;") (by decide +kernel)
  have L2 : ∀ (k : Nat) (j : Nat) (x2 : Int32), (j ≤ n.toNatClampNeg) → (n.toNatClampNeg + 1 ≤ j + k) → (x2 = nI j) → (z_find (d_pT fk fh p0) n.toNatClampNeg j = d_tent fk fh n p0) → ∀ (ls : Array Slot), lv_has ls 3 [(0, .ref h0), (1, .int p0), (2, .int x2)] → W p l e ({ frames := 1, cells := 0, slots := 0, locals := 21 }) s m ([.ref h0, .int p0] : List Value).toArray below meth c s.heap [] 0 0 (MQ below (z_Ro (some (.int (d_tent fk fh n p0)))) ([.ref h0, .int p0] : List Value).toArray s 0 0 (fun _ => False)) (F0 m 2 ls []) := by
    intro k
    induction k with
    | zero =>
      intro j x2 hj hk ex2 er
      exfalso; omega
    | succ k ih =>
      intro j x2 hj hk ex2 er
      intro ls hl
      refine lv_iload_n hx hb dX0_findTentative_2 rfl (lv_at hl 2 rfl) ?_
      refine lv_aload_n hx hb dX0_findTentative_3 rfl (lv_at hl 0 rfl) ?_
      refine va_get (D := D) (ci := 0) (v := .int n) (C := RX0) (T := TX0) (N := 5) hx hb hts hin0 hown hK hP 0 rfl rfl 4 (by decide) hf29 (fun _ h9 => h9) rfl dX0_findTentative_4 ?_
      refine lv_icmp_ge (tgt := 42) hx hb dX0_findTentative_7 (by decide) (fun c_1 => ?_) (fun c_1 => ?_)
      · skip
        refine lv_iconst (v := -1) hx hb dX0_findTentative_42 (by decide) ?_
        exact W.iret (v := -1) hx hb hr (fun t ht hW => ⟨z_ret (z_miss er (Nat.le_of_eq (z_c_eq hj ex2 c_1))), ht⟩) (fun _ h => nomatch h) dX0_findTentative_43
      · skip
        refine lv_aload_n hx hb dX0_findTentative_10 rfl (lv_at hl 0 rfl) ?_
        refine va_get (D := D) (ci := 0) (v := .ref a1) (C := RX0) (T := TX0) (N := 5) hx hb hts hin0 hown hK hP 0 rfl rfl 0 (by decide) hf16 (fun _ h9 => h9) rfl dX0_findTentative_11 ?_
        refine lv_iload_n hx hb dX0_findTentative_14 rfl (lv_at hl 2 rfl) ?_
        refine z_callRi (va_runV (As := [.int x2]) (rest := []) ⟨hx, hb, hml, hown, hts⟩ (c_X2_at l D cI a1 b1 17 fk x2 (by decide)) (cwV 1 hts gX0_findTentative_X2_at rfl rfl rfl qd_X2_at ⟨Nat.le_of_ble_eq_true rfl, Nat.le_of_ble_eq_true rfl⟩) ⟨z_Pr_blind, va_recv hK hP (ci := 2) (q0 := 1) rfl rfl, fun U hU hW => ⟨rfl, by rw [hU]; exact hP.sub (ws' := [(a1, .inr (2, [.ref b1])), (b1, .inl (cI, 17, .inl fk))]) [1, 2] rfl, va_K.moved hW.alike hK⟩⟩ rfl rfl hl.1 rfl (lv_room (Nat.le_of_ble_eq_true rfl)) dX0_findTentative_15 ⟨Nat.le_of_ble_eq_true rfl, Nat.le_of_ble_eq_true rfl⟩) ?_
        refine lv_iconst (v := 1) hx hb dX0_findTentative_18 (by decide) ?_
        refine lv_icmp_ne (tgt := 36) hx hb dX0_findTentative_19 (by decide) (fun c_2 => ?_) (fun c_2 => ?_)
        · skip
          refine lv_iinc (v := x2 + 1) (lv' := [(2, .int (x2 + 1)), (0, .ref h0), (1, .int p0)]) hx hb dX0_findTentative_36 hl (k := 2) rfl (by rfl) (by decide) rfl (fun ls hl => ?_)
          refine lv_goto (tgt := 2) hx hb dX0_findTentative_39 (by decide) ?_
          exact ih (j + 1) (x2 + 1) (z_c_g hj ex2 c_1) (by omega) (by rw [ex2, nI_succ]) (z_skip er (z_c_g hj ex2 c_1) (by subst ex2; simp [d_pT, c_2])) ls (lv_sub hl [1, 2, 0] rfl)
        · skip
          refine lv_aload_n hx hb dX0_findTentative_22 rfl (lv_at hl 0 rfl) ?_
          refine va_get (D := D) (ci := 0) (v := .ref a4) (C := RX0) (T := TX0) (N := 5) hx hb hts hin0 hown hK hP 0 rfl rfl 3 (by decide) hf26 (fun _ h9 => h9) rfl dX0_findTentative_23 ?_
          refine lv_iload_n hx hb dX0_findTentative_26 rfl (lv_at hl 2 rfl) ?_
          refine z_callRi (va_runV (As := [.int x2]) (rest := []) ⟨hx, hb, hml, hown, hts⟩ (c_X2_at l D cI a4 b4 17 fh x2 (by decide)) (cwV 1 hts gX0_findTentative_X2_at rfl rfl rfl qd_X2_at ⟨Nat.le_of_ble_eq_true rfl, Nat.le_of_ble_eq_true rfl⟩) ⟨z_Pr_blind, va_recv hK hP (ci := 2) (q0 := 3) rfl rfl, fun U hU hW => ⟨rfl, by rw [hU]; exact hP.sub (ws' := [(a4, .inr (2, [.ref b4])), (b4, .inl (cI, 17, .inl fh))]) [3, 4] rfl, va_K.moved hW.alike hK⟩⟩ rfl rfl hl.1 rfl (lv_room (Nat.le_of_ble_eq_true rfl)) dX0_findTentative_27 ⟨Nat.le_of_ble_eq_true rfl, Nat.le_of_ble_eq_true rfl⟩) ?_
          refine lv_iload_n hx hb dX0_findTentative_30 rfl (lv_at hl 1 rfl) ?_
          refine lv_icmp_ne (tgt := 36) hx hb dX0_findTentative_31 (by decide) (fun c_3 => ?_) (fun c_3 => ?_)
          · skip
            refine lv_iinc (v := x2 + 1) (lv' := [(2, .int (x2 + 1)), (0, .ref h0), (1, .int p0)]) hx hb dX0_findTentative_36 hl (k := 2) rfl (by rfl) (by decide) rfl (fun ls hl => ?_)
            refine lv_goto (tgt := 2) hx hb dX0_findTentative_39 (by decide) ?_
            exact ih (j + 1) (x2 + 1) (z_c_g hj ex2 c_1) (by omega) (by rw [ex2, nI_succ]) (z_skip er (z_c_g hj ex2 c_1) (by subst ex2; simp [d_pT, c_2, c_3])) ls (lv_sub hl [1, 2, 0] rfl)
          · skip
            refine lv_iload_n hx hb dX0_findTentative_34 rfl (lv_at hl 2 rfl) ?_
            exact W.iret (v := x2) hx hb hr (fun t ht hW => ⟨z_ret (z_hit er (z_c_g hj ex2 c_1) ex2 (by subst ex2; simp [d_pT, c_2, c_3])), ht⟩) (fun _ h => nomatch h) dX0_findTentative_35
  refine lv_iconst (v := 0) hx hb dX0_findTentative_0 (by decide) ?_
  refine lv_istore_n (lv' := [(2, .int 0), (0, .ref h0), (1, .int p0)]) hx hb dX0_findTentative_1 rfl hl (by decide) rfl (fun ls hl => ?_)
  exact L2 (n.toNatClampNeg + 1) 0 0 (Nat.zero_le _) (by omega) nI_0.symm rfl ls (lv_sub hl [1, 2, 0] rfl)
theorem qd_X0_findPermanent : yX0_findPermanent.cls = RX0 ∧ yX0_findPermanent.cls ≠ "java/lang/invoke/MethodHandle" ∧ yX0_findPermanent.cls ≠ "java/lang/invoke/VarHandle" ∧ (parseMethodDescriptor yX0_findPermanent.desc).map (fun d => d.parameters.length) = some 1 := by decide +kernel
set_option maxHeartbeats 400000 in
set_option maxRecDepth 100000 in
/-- Directory.findPermanent -/
theorem c_X0_findPermanent (l : Launch) (D : va_G) (cI : ClassId) (h0 : Nat) (a1 : Nat) (a2 : Nat) (a3 : Nat) (a4 : Nat) (b1 : Nat) (b3 : Nat) (fk : zA) (fn : zA) (n : Int32) (p0 : Int32) : Met l yX0_findPermanent wsX0_findPermanent ({ frames := 1, cells := 0, slots := 0, locals := 21 }) (z_Pr D cI [.ref h0, .int p0] [(h0, .inr (0, [.ref a1, .ref a2, .ref a3, .ref a4, .int n])), (a1, .inr (2, [.ref b1])), (b1, .inl (cI, 17, .inl fk)), (a3, .inr (2, [.ref b3])), (b3, .inl (cI, 17, .inl fn))]) (z_Ro (some (.int (d_perm fk fn n p0)))) 0 0 (fun _ => False) := by
  refine Met.ofW (cc := cX0_findPermanent) (maxL := 3) (ret := (some .int)) (by decide) rfl ?_
  intro p e s m args below meth c s₁ B hml hv
  obtain ⟨rfl, hP, hK⟩ := hv
  have hx := B.exec
  have hb := B.bytes
  have hr := B.returns
  have hts := atoms_spec (ws := wsX0_findPermanent) B.pre
  have hown : s.vm.findClass RX0 = some m.cls := findClass_of_methodNamed B.named
  have hlocks := B.notSynchronized
  have hP : va_P D vwCl [(h0, .inr (0, [.ref a1, .ref a2, .ref a3, .ref a4, .int n])), (a1, .inr (2, [.ref b1])), (b1, .inl (cI, 17, .inl fk)), (a3, .inr (2, [.ref b3])), (b3, .inl (cI, 17, .inl fn))] s.heap := hP
  have hl := lv_entry ([.ref h0, .int p0]) (n := 3) (Nat.le_of_ble_eq_true rfl)
  rw [lg_entry_eq]
  generalize (lg_sl ([.ref h0, .int p0]) ++ List.replicate (3 - (lg_sl ([.ref h0, .int p0])).length) Slot.unset).toArray = ls at hl ⊢
  have hl : lv_has ls 3 [(0, .ref h0), (1, .int p0)] := hl
  have hin0 : ∀ w ∈ wsX00, w ∈ wsX0_findPermanent := by decide +kernel
  have hf29 := hts (.fieldLink RX0 29 "SqueezedVolume$Directory" "count" "I") (by decide +kernel)
  have hf16 := hts (.fieldLink RX0 16 "SqueezedVolume$Directory" "kinds" "LSqueezedVolume$Row;") (by decide +kernel)
  have hf23 := hts (.fieldLink RX0 23 "SqueezedVolume$Directory" "names" "LSqueezedVolume$Row;") (by decide +kernel)
  have L2 : ∀ (k : Nat) (j : Nat) (x2 : Int32), (j ≤ n.toNatClampNeg) → (n.toNatClampNeg + 1 ≤ j + k) → (x2 = nI j) → (z_find (d_pP fk fn p0) n.toNatClampNeg j = d_perm fk fn n p0) → ∀ (ls : Array Slot), lv_has ls 3 [(0, .ref h0), (1, .int p0), (2, .int x2)] → W p l e ({ frames := 1, cells := 0, slots := 0, locals := 21 }) s m ([.ref h0, .int p0] : List Value).toArray below meth c s.heap [] 0 0 (MQ below (z_Ro (some (.int (d_perm fk fn n p0)))) ([.ref h0, .int p0] : List Value).toArray s 0 0 (fun _ => False)) (F0 m 2 ls []) := by
    intro k
    induction k with
    | zero =>
      intro j x2 hj hk ex2 er
      exfalso; omega
    | succ k ih =>
      intro j x2 hj hk ex2 er
      intro ls hl
      refine lv_iload_n hx hb dX0_findPermanent_2 rfl (lv_at hl 2 rfl) ?_
      refine lv_aload_n hx hb dX0_findPermanent_3 rfl (lv_at hl 0 rfl) ?_
      refine va_get (D := D) (ci := 0) (v := .int n) (C := RX0) (T := TX0) (N := 5) hx hb hts hin0 hown hK hP 0 rfl rfl 4 (by decide) hf29 (fun _ h9 => h9) rfl dX0_findPermanent_4 ?_
      refine lv_icmp_ge (tgt := 42) hx hb dX0_findPermanent_7 (by decide) (fun c_1 => ?_) (fun c_1 => ?_)
      · skip
        refine lv_iconst (v := -1) hx hb dX0_findPermanent_42 (by decide) ?_
        exact W.iret (v := -1) hx hb hr (fun t ht hW => ⟨z_ret (z_miss er (Nat.le_of_eq (z_c_eq hj ex2 c_1))), ht⟩) (fun _ h => nomatch h) dX0_findPermanent_43
      · skip
        refine lv_aload_n hx hb dX0_findPermanent_10 rfl (lv_at hl 0 rfl) ?_
        refine va_get (D := D) (ci := 0) (v := .ref a1) (C := RX0) (T := TX0) (N := 5) hx hb hts hin0 hown hK hP 0 rfl rfl 0 (by decide) hf16 (fun _ h9 => h9) rfl dX0_findPermanent_11 ?_
        refine lv_iload_n hx hb dX0_findPermanent_14 rfl (lv_at hl 2 rfl) ?_
        refine z_callRi (va_runV (As := [.int x2]) (rest := []) ⟨hx, hb, hml, hown, hts⟩ (c_X2_at l D cI a1 b1 17 fk x2 (by decide)) (cwV 1 hts gX0_findPermanent_X2_at rfl rfl rfl qd_X2_at ⟨Nat.le_of_ble_eq_true rfl, Nat.le_of_ble_eq_true rfl⟩) ⟨z_Pr_blind, va_recv hK hP (ci := 2) (q0 := 1) rfl rfl, fun U hU hW => ⟨rfl, by rw [hU]; exact hP.sub (ws' := [(a1, .inr (2, [.ref b1])), (b1, .inl (cI, 17, .inl fk))]) [1, 2] rfl, va_K.moved hW.alike hK⟩⟩ rfl rfl hl.1 rfl (lv_room (Nat.le_of_ble_eq_true rfl)) dX0_findPermanent_15 ⟨Nat.le_of_ble_eq_true rfl, Nat.le_of_ble_eq_true rfl⟩) ?_
        refine lv_iconst (v := 2) hx hb dX0_findPermanent_18 (by decide) ?_
        refine lv_icmp_ne (tgt := 36) hx hb dX0_findPermanent_19 (by decide) (fun c_2 => ?_) (fun c_2 => ?_)
        · skip
          refine lv_iinc (v := x2 + 1) (lv' := [(2, .int (x2 + 1)), (0, .ref h0), (1, .int p0)]) hx hb dX0_findPermanent_36 hl (k := 2) rfl (by rfl) (by decide) rfl (fun ls hl => ?_)
          refine lv_goto (tgt := 2) hx hb dX0_findPermanent_39 (by decide) ?_
          exact ih (j + 1) (x2 + 1) (z_c_g hj ex2 c_1) (by omega) (by rw [ex2, nI_succ]) (z_skip er (z_c_g hj ex2 c_1) (by subst ex2; simp [d_pP, c_2])) ls (lv_sub hl [1, 2, 0] rfl)
        · skip
          refine lv_aload_n hx hb dX0_findPermanent_22 rfl (lv_at hl 0 rfl) ?_
          refine va_get (D := D) (ci := 0) (v := .ref a3) (C := RX0) (T := TX0) (N := 5) hx hb hts hin0 hown hK hP 0 rfl rfl 2 (by decide) hf23 (fun _ h9 => h9) rfl dX0_findPermanent_23 ?_
          refine lv_iload_n hx hb dX0_findPermanent_26 rfl (lv_at hl 2 rfl) ?_
          refine z_callRi (va_runV (As := [.int x2]) (rest := []) ⟨hx, hb, hml, hown, hts⟩ (c_X2_at l D cI a3 b3 17 fn x2 (by decide)) (cwV 1 hts gX0_findPermanent_X2_at rfl rfl rfl qd_X2_at ⟨Nat.le_of_ble_eq_true rfl, Nat.le_of_ble_eq_true rfl⟩) ⟨z_Pr_blind, va_recv hK hP (ci := 2) (q0 := 3) rfl rfl, fun U hU hW => ⟨rfl, by rw [hU]; exact hP.sub (ws' := [(a3, .inr (2, [.ref b3])), (b3, .inl (cI, 17, .inl fn))]) [3, 4] rfl, va_K.moved hW.alike hK⟩⟩ rfl rfl hl.1 rfl (lv_room (Nat.le_of_ble_eq_true rfl)) dX0_findPermanent_27 ⟨Nat.le_of_ble_eq_true rfl, Nat.le_of_ble_eq_true rfl⟩) ?_
          refine lv_iload_n hx hb dX0_findPermanent_30 rfl (lv_at hl 1 rfl) ?_
          refine lv_icmp_ne (tgt := 36) hx hb dX0_findPermanent_31 (by decide) (fun c_3 => ?_) (fun c_3 => ?_)
          · skip
            refine lv_iinc (v := x2 + 1) (lv' := [(2, .int (x2 + 1)), (0, .ref h0), (1, .int p0)]) hx hb dX0_findPermanent_36 hl (k := 2) rfl (by rfl) (by decide) rfl (fun ls hl => ?_)
            refine lv_goto (tgt := 2) hx hb dX0_findPermanent_39 (by decide) ?_
            exact ih (j + 1) (x2 + 1) (z_c_g hj ex2 c_1) (by omega) (by rw [ex2, nI_succ]) (z_skip er (z_c_g hj ex2 c_1) (by subst ex2; simp [d_pP, c_2, c_3])) ls (lv_sub hl [1, 2, 0] rfl)
          · skip
            refine lv_iload_n hx hb dX0_findPermanent_34 rfl (lv_at hl 2 rfl) ?_
            exact W.iret (v := x2) hx hb hr (fun t ht hW => ⟨z_ret (z_hit er (z_c_g hj ex2 c_1) ex2 (by subst ex2; simp [d_pP, c_2, c_3])), ht⟩) (fun _ h => nomatch h) dX0_findPermanent_35
  refine lv_iconst (v := 0) hx hb dX0_findPermanent_0 (by decide) ?_
  refine lv_istore_n (lv' := [(2, .int 0), (0, .ref h0), (1, .int p0)]) hx hb dX0_findPermanent_1 rfl hl (by decide) rfl (fun ls hl => ?_)
  exact L2 (n.toNatClampNeg + 1) 0 0 (Nat.zero_le _) (by omega) nI_0.symm rfl ls (lv_sub hl [1, 2, 0] rfl)
theorem qd_X0_leastFreeHandle : yX0_leastFreeHandle.cls = RX0 ∧ yX0_leastFreeHandle.cls ≠ "java/lang/invoke/MethodHandle" ∧ yX0_leastFreeHandle.cls ≠ "java/lang/invoke/VarHandle" ∧ (parseMethodDescriptor yX0_leastFreeHandle.desc).map (fun d => d.parameters.length) = some 0 := by decide +kernel
set_option maxHeartbeats 400000 in
set_option maxRecDepth 100000 in
/-- Directory.leastFreeHandle -/
theorem c_X0_leastFreeHandle (l : Launch) (D : va_G) (cI : ClassId) (h0 : Nat) (a1 : Nat) (a2 : Nat) (a3 : Nat) (a4 : Nat) (b1 : Nat) (b4 : Nat) (fk : zA) (fh : zA) (n : Int32) : Met l yX0_leastFreeHandle wsX0_leastFreeHandle ({ frames := 2, cells := 0, slots := 0, locals := 43 }) (z_Pr D cI [.ref h0] [(h0, .inr (0, [.ref a1, .ref a2, .ref a3, .ref a4, .int n])), (a1, .inr (2, [.ref b1])), (b1, .inl (cI, 17, .inl fk)), (a4, .inr (2, [.ref b4])), (b4, .inl (cI, 17, .inl fh))]) (z_Ro (some (.int (d_free fk fh n)))) 0 0 (fun _ => False) := by
  refine Met.ofW (cc := cX0_leastFreeHandle) (maxL := 2) (ret := (some .int)) (by decide) rfl ?_
  intro p e s m args below meth c s₁ B hml hv
  obtain ⟨rfl, hP, hK⟩ := hv
  have hx := B.exec
  have hb := B.bytes
  have hr := B.returns
  have hts := atoms_spec (ws := wsX0_leastFreeHandle) B.pre
  have hown : s.vm.findClass RX0 = some m.cls := findClass_of_methodNamed B.named
  have hlocks := B.notSynchronized
  have hP : va_P D vwCl [(h0, .inr (0, [.ref a1, .ref a2, .ref a3, .ref a4, .int n])), (a1, .inr (2, [.ref b1])), (b1, .inl (cI, 17, .inl fk)), (a4, .inr (2, [.ref b4])), (b4, .inl (cI, 17, .inl fh))] s.heap := hP
  have hl := lv_entry ([.ref h0]) (n := 2) (Nat.le_of_ble_eq_true rfl)
  rw [lg_entry_eq]
  generalize (lg_sl ([.ref h0]) ++ List.replicate (2 - (lg_sl ([.ref h0])).length) Slot.unset).toArray = ls at hl ⊢
  have hl : lv_has ls 2 [(0, .ref h0)] := hl
  have L2 : ∀ (k : Nat) (j : Nat) (x1 : Int32), (j ≤ 4) → (4 + 1 ≤ j + k) → (x1 = nI j) → (z_find (fun j => decide (d_tent fk fh n (nI j) = -1)) 4 j = d_free fk fh n) → ∀ (ls : Array Slot), lv_has ls 2 [(0, .ref h0), (1, .int x1)] → W p l e ({ frames := 2, cells := 0, slots := 0, locals := 43 }) s m ([.ref h0] : List Value).toArray below meth c s.heap [] 0 0 (MQ below (z_Ro (some (.int (d_free fk fh n)))) ([.ref h0] : List Value).toArray s 0 0 (fun _ => False)) (F0 m 2 ls []) := by
    intro k
    induction k with
    | zero =>
      intro j x1 hj hk ex1 er
      exfalso; omega
    | succ k ih =>
      intro j x1 hj hk ex1 er
      intro ls hl
      refine lv_iload_n hx hb dX0_leastFreeHandle_2 rfl (lv_at hl 1 rfl) ?_
      refine lv_iconst (v := 4) hx hb dX0_leastFreeHandle_3 (by decide) ?_
      refine lv_icmp_ge (tgt := 24) hx hb dX0_leastFreeHandle_4 (by decide) (fun c_1 => ?_) (fun c_1 => ?_)
      · skip
        refine lv_iconst (v := -1) hx hb dX0_leastFreeHandle_24 (by decide) ?_
        exact W.iret (v := -1) hx hb hr (fun t ht hW => ⟨z_ret (z_miss er (z_c_l4 hj ex1 c_1)), ht⟩) (fun _ h => nomatch h) dX0_leastFreeHandle_25
      · skip
        refine lv_aload_n hx hb dX0_leastFreeHandle_7 rfl (lv_at hl 0 rfl) ?_
        refine lv_iload_n hx hb dX0_leastFreeHandle_8 rfl (lv_at hl 1 rfl) ?_
        refine z_callRi (va_runV (As := [.int x1]) (rest := []) ⟨hx, hb, hml, hown, hts⟩ (c_X0_findTentative l D cI h0 a1 a2 a3 a4 b1 b4 fk fh n x1) (cwV 1 hts gX0_leastFreeHandle_X0_findTentative rfl rfl rfl qd_X0_findTentative ⟨Nat.le_of_ble_eq_true rfl, Nat.le_of_ble_eq_true rfl⟩) ⟨z_Pr_blind, va_recv hK hP (ci := 0) (q0 := 0) rfl rfl, fun U hU hW => ⟨rfl, by rw [hU]; exact hP, va_K.moved hW.alike hK⟩⟩ rfl rfl hl.1 rfl (lv_room (Nat.le_of_ble_eq_true rfl)) dX0_leastFreeHandle_9 ⟨Nat.le_of_ble_eq_true rfl, Nat.le_of_ble_eq_true rfl⟩) ?_
        refine lv_iconst (v := -1) hx hb dX0_leastFreeHandle_12 (by decide) ?_
        refine lv_icmp_ne (tgt := 18) hx hb dX0_leastFreeHandle_13 (by decide) (fun c_2 => ?_) (fun c_2 => ?_)
        · skip
          refine lv_iinc (v := x1 + 1) (lv' := [(1, .int (x1 + 1)), (0, .ref h0)]) hx hb dX0_leastFreeHandle_18 hl (k := 1) rfl (by rfl) (by decide) rfl (fun ls hl => ?_)
          refine lv_goto (tgt := 2) hx hb dX0_leastFreeHandle_21 (by decide) ?_
          exact ih (j + 1) (x1 + 1) (z_c_4 hj ex1 c_1) (by omega) (by rw [ex1, nI_succ]) (z_skip er (z_c_4 hj ex1 c_1) (by subst ex1; simp [d_free, c_2])) ls (lv_sub hl [1, 0] rfl)
        · skip
          refine lv_iload_n hx hb dX0_leastFreeHandle_16 rfl (lv_at hl 1 rfl) ?_
          exact W.iret (v := x1) hx hb hr (fun t ht hW => ⟨z_ret (z_hit er (z_c_4 hj ex1 c_1) ex1 (by subst ex1; simp [d_free, c_2])), ht⟩) (fun _ h => nomatch h) dX0_leastFreeHandle_17
  refine lv_iconst (v := 0) hx hb dX0_leastFreeHandle_0 (by decide) ?_
  refine lv_istore_n (lv' := [(1, .int 0), (0, .ref h0)]) hx hb dX0_leastFreeHandle_1 rfl hl (by decide) rfl (fun ls hl => ?_)
  exact L2 (4 + 1) 0 0 (Nat.zero_le _) (by omega) nI_0.symm rfl ls (lv_sub hl [1, 0] rfl)
theorem qd_X0_leastHandleOf : yX0_leastHandleOf.cls = RX0 ∧ yX0_leastHandleOf.cls ≠ "java/lang/invoke/MethodHandle" ∧ yX0_leastHandleOf.cls ≠ "java/lang/invoke/VarHandle" ∧ (parseMethodDescriptor yX0_leastHandleOf.desc).map (fun d => d.parameters.length) = some 1 := by decide +kernel
set_option maxHeartbeats 400000 in
set_option maxRecDepth 100000 in
/-- Directory.leastHandleOf -/
theorem c_X0_leastHandleOf (l : Launch) (D : va_G) (cI : ClassId) (h0 : Nat) (a1 : Nat) (a2 : Nat) (a3 : Nat) (a4 : Nat) (b1 : Nat) (b3 : Nat) (b4 : Nat) (fk : zA) (fn : zA) (fh : zA) (n : Int32) (p0 : Int32) : Met l yX0_leastHandleOf wsX0_leastHandleOf ({ frames := 2, cells := 0, slots := 0, locals := 43 }) (z_Pr D cI [.ref h0, .int p0] [(h0, .inr (0, [.ref a1, .ref a2, .ref a3, .ref a4, .int n])), (a1, .inr (2, [.ref b1])), (b1, .inl (cI, 17, .inl fk)), (a3, .inr (2, [.ref b3])), (b3, .inl (cI, 17, .inl fn)), (a4, .inr (2, [.ref b4])), (b4, .inl (cI, 17, .inl fh))]) (z_Ro (some (.int (d_hand fk fn fh n p0)))) 0 0 (fun _ => False) := by
  refine Met.ofW (cc := cX0_leastHandleOf) (maxL := 4) (ret := (some .int)) (by decide) rfl ?_
  intro p e s m args below meth c s₁ B hml hv
  obtain ⟨rfl, hP, hK⟩ := hv
  have hx := B.exec
  have hb := B.bytes
  have hr := B.returns
  have hts := atoms_spec (ws := wsX0_leastHandleOf) B.pre
  have hown : s.vm.findClass RX0 = some m.cls := findClass_of_methodNamed B.named
  have hlocks := B.notSynchronized
  have hP : va_P D vwCl [(h0, .inr (0, [.ref a1, .ref a2, .ref a3, .ref a4, .int n])), (a1, .inr (2, [.ref b1])), (b1, .inl (cI, 17, .inl fk)), (a3, .inr (2, [.ref b3])), (b3, .inl (cI, 17, .inl fn)), (a4, .inr (2, [.ref b4])), (b4, .inl (cI, 17, .inl fh))] s.heap := hP
  have hl := lv_entry ([.ref h0, .int p0]) (n := 4) (Nat.le_of_ble_eq_true rfl)
  rw [lg_entry_eq]
  generalize (lg_sl ([.ref h0, .int p0]) ++ List.replicate (4 - (lg_sl ([.ref h0, .int p0])).length) Slot.unset).toArray = ls at hl ⊢
  have hl : lv_has ls 4 [(0, .ref h0), (1, .int p0)] := hl
  have hin0 : ∀ w ∈ wsX00, w ∈ wsX0_leastHandleOf := by decide +kernel
  have hf23 := hts (.fieldLink RX0 23 "SqueezedVolume$Directory" "names" "LSqueezedVolume$Row;") (by decide +kernel)
  have L2 : ∀ (k : Nat) (j : Nat) (x2 : Int32), (j ≤ 4) → (4 + 1 ≤ j + k) → (x2 = nI j) → (z_find (d_pH fk fn fh n p0) 4 j = d_hand fk fn fh n p0) → ∀ (ls : Array Slot), lv_has ls 4 [(0, .ref h0), (1, .int p0), (2, .int x2)] → W p l e ({ frames := 2, cells := 0, slots := 0, locals := 43 }) s m ([.ref h0, .int p0] : List Value).toArray below meth c s.heap [] 0 0 (MQ below (z_Ro (some (.int (d_hand fk fn fh n p0)))) ([.ref h0, .int p0] : List Value).toArray s 0 0 (fun _ => False)) (F0 m 2 ls []) := by
    intro k
    induction k with
    | zero =>
      intro j x2 hj hk ex2 er
      exfalso; omega
    | succ k ih =>
      intro j x2 hj hk ex2 er
      intro ls hl
      refine lv_iload_n hx hb dX0_leastHandleOf_2 rfl (lv_at hl 2 rfl) ?_
      refine lv_iconst (v := 4) hx hb dX0_leastHandleOf_3 (by decide) ?_
      refine lv_icmp_ge (tgt := 38) hx hb dX0_leastHandleOf_4 (by decide) (fun c_1 => ?_) (fun c_1 => ?_)
      · skip
        refine lv_iconst (v := -1) hx hb dX0_leastHandleOf_38 (by decide) ?_
        exact W.iret (v := -1) hx hb hr (fun t ht hW => ⟨z_ret (z_miss er (z_c_l4 hj ex2 c_1)), ht⟩) (fun _ h => nomatch h) dX0_leastHandleOf_39
      · skip
        refine lv_aload_n hx hb dX0_leastHandleOf_7 rfl (lv_at hl 0 rfl) ?_
        refine lv_iload_n hx hb dX0_leastHandleOf_8 rfl (lv_at hl 2 rfl) ?_
        refine z_callRi (va_runV (As := [.int x2]) (rest := []) ⟨hx, hb, hml, hown, hts⟩ (c_X0_findTentative l D cI h0 a1 a2 a3 a4 b1 b4 fk fh n x2) (cwV 1 hts gX0_leastHandleOf_X0_findTentative rfl rfl rfl qd_X0_findTentative ⟨Nat.le_of_ble_eq_true rfl, Nat.le_of_ble_eq_true rfl⟩) ⟨z_Pr_blind, va_recv hK hP (ci := 0) (q0 := 0) rfl rfl, fun U hU hW => ⟨rfl, by rw [hU]; exact hP.sub (ws' := [(h0, .inr (0, [.ref a1, .ref a2, .ref a3, .ref a4, .int n])), (a1, .inr (2, [.ref b1])), (b1, .inl (cI, 17, .inl fk)), (a4, .inr (2, [.ref b4])), (b4, .inl (cI, 17, .inl fh))]) [0, 1, 2, 5, 6] rfl, va_K.moved hW.alike hK⟩⟩ rfl rfl hl.1 rfl (lv_room (Nat.le_of_ble_eq_true rfl)) dX0_leastHandleOf_9 ⟨Nat.le_of_ble_eq_true rfl, Nat.le_of_ble_eq_true rfl⟩) ?_
        refine lv_istore_n (lv' := [(3, .int (d_tent fk fh n x2)), (0, .ref h0), (1, .int p0), (2, .int x2)]) hx hb dX0_leastHandleOf_12 rfl hl (by decide) rfl (fun ls hl => ?_)
        refine lv_iload_n hx hb dX0_leastHandleOf_13 rfl (lv_at hl 0 rfl) ?_
        refine lv_iconst (v := -1) hx hb dX0_leastHandleOf_14 (by decide) ?_
        refine lv_icmp_eq (tgt := 32) hx hb dX0_leastHandleOf_15 (by decide) (fun c_2 => ?_) (fun c_2 => ?_)
        · skip
          refine lv_iinc (v := x2 + 1) (lv' := [(2, .int (x2 + 1)), (3, .int (d_tent fk fh n x2)), (0, .ref h0), (1, .int p0)]) hx hb dX0_leastHandleOf_32 hl (k := 3) rfl (by rfl) (by decide) rfl (fun ls hl => ?_)
          refine lv_goto (tgt := 2) hx hb dX0_leastHandleOf_35 (by decide) ?_
          exact ih (j + 1) (x2 + 1) (z_c_4 hj ex2 c_1) (by omega) (by rw [ex2, nI_succ]) (z_skip er (z_c_4 hj ex2 c_1) (by subst ex2; simp [d_pH, c_2])) ls (lv_sub hl [2, 3, 0] rfl)
        · skip
          refine lv_aload_n hx hb dX0_leastHandleOf_18 rfl (lv_at hl 1 rfl) ?_
          refine va_get (D := D) (ci := 0) (v := .ref a3) (C := RX0) (T := TX0) (N := 5) hx hb hts hin0 hown hK hP 0 rfl rfl 2 (by decide) hf23 (fun _ h9 => h9) rfl dX0_leastHandleOf_19 ?_
          refine lv_iload_n hx hb dX0_leastHandleOf_22 rfl (lv_at hl 0 rfl) ?_
          refine z_callRi (va_runV (As := [.int (d_tent fk fh n x2)]) (rest := []) ⟨hx, hb, hml, hown, hts⟩ (c_X2_at l D cI a3 b3 17 fn (d_tent fk fh n x2) (by decide)) (cwV 1 hts gX0_leastHandleOf_X2_at rfl rfl rfl qd_X2_at ⟨Nat.le_of_ble_eq_true rfl, Nat.le_of_ble_eq_true rfl⟩) ⟨z_Pr_blind, va_recv hK hP (ci := 2) (q0 := 3) rfl rfl, fun U hU hW => ⟨rfl, by rw [hU]; exact hP.sub (ws' := [(a3, .inr (2, [.ref b3])), (b3, .inl (cI, 17, .inl fn))]) [3, 4] rfl, va_K.moved hW.alike hK⟩⟩ rfl rfl hl.1 rfl (lv_room (Nat.le_of_ble_eq_true rfl)) dX0_leastHandleOf_23 ⟨Nat.le_of_ble_eq_true rfl, Nat.le_of_ble_eq_true rfl⟩) ?_
          refine lv_iload_n hx hb dX0_leastHandleOf_26 rfl (lv_at hl 2 rfl) ?_
          refine lv_icmp_ne (tgt := 32) hx hb dX0_leastHandleOf_27 (by decide) (fun c_3 => ?_) (fun c_3 => ?_)
          · skip
            refine lv_iinc (v := x2 + 1) (lv' := [(2, .int (x2 + 1)), (3, .int (d_tent fk fh n x2)), (0, .ref h0), (1, .int p0)]) hx hb dX0_leastHandleOf_32 hl (k := 3) rfl (by rfl) (by decide) rfl (fun ls hl => ?_)
            refine lv_goto (tgt := 2) hx hb dX0_leastHandleOf_35 (by decide) ?_
            exact ih (j + 1) (x2 + 1) (z_c_4 hj ex2 c_1) (by omega) (by rw [ex2, nI_succ]) (z_skip er (z_c_4 hj ex2 c_1) (by subst ex2; simp [d_pH, c_2, c_3])) ls (lv_sub hl [2, 3, 0] rfl)
          · skip
            refine lv_iload_n hx hb dX0_leastHandleOf_30 rfl (lv_at hl 3 rfl) ?_
            exact W.iret (v := x2) hx hb hr (fun t ht hW => ⟨z_ret (z_hit er (z_c_4 hj ex2 c_1) ex2 (by subst ex2; simp [d_pH, c_2, c_3])), ht⟩) (fun _ h => nomatch h) dX0_leastHandleOf_31
  refine lv_iconst (v := 0) hx hb dX0_leastHandleOf_0 (by decide) ?_
  refine lv_istore_n (lv' := [(2, .int 0), (0, .ref h0), (1, .int p0)]) hx hb dX0_leastHandleOf_1 rfl hl (by decide) rfl (fun ls hl => ?_)
  exact L2 (4 + 1) 0 0 (Nat.zero_le _) (by omega) nI_0.symm rfl ls (lv_sub hl [1, 2, 0] rfl)
theorem qd_X0_findGap : yX0_findGap.cls = RX0 ∧ yX0_findGap.cls ≠ "java/lang/invoke/MethodHandle" ∧ yX0_findGap.cls ≠ "java/lang/invoke/VarHandle" ∧ (parseMethodDescriptor yX0_findGap.desc).map (fun d => d.parameters.length) = some 0 := by decide +kernel
set_option maxHeartbeats 400000 in
set_option maxRecDepth 100000 in
/-- Directory.findGap -/
theorem c_X0_findGap (l : Launch) (D : va_G) (cI : ClassId) (h0 : Nat) (a1 : Nat) (a2 : Nat) (a3 : Nat) (a4 : Nat) (b1 : Nat) (fk : zA) (n : Int32) : Met l yX0_findGap wsX0_findGap ({ frames := 1, cells := 0, slots := 0, locals := 21 }) (z_Pr D cI [.ref h0] [(h0, .inr (0, [.ref a1, .ref a2, .ref a3, .ref a4, .int n])), (a1, .inr (2, [.ref b1])), (b1, .inl (cI, 17, .inl fk))]) (z_Ro (some (.int (d_gap fk n)))) 0 0 (fun _ => False) := by
  refine Met.ofW (cc := cX0_findGap) (maxL := 2) (ret := (some .int)) (by decide) rfl ?_
  intro p e s m args below meth c s₁ B hml hv
  obtain ⟨rfl, hP, hK⟩ := hv
  have hx := B.exec
  have hb := B.bytes
  have hr := B.returns
  have hts := atoms_spec (ws := wsX0_findGap) B.pre
  have hown : s.vm.findClass RX0 = some m.cls := findClass_of_methodNamed B.named
  have hlocks := B.notSynchronized
  have hP : va_P D vwCl [(h0, .inr (0, [.ref a1, .ref a2, .ref a3, .ref a4, .int n])), (a1, .inr (2, [.ref b1])), (b1, .inl (cI, 17, .inl fk))] s.heap := hP
  have hl := lv_entry ([.ref h0]) (n := 2) (Nat.le_of_ble_eq_true rfl)
  rw [lg_entry_eq]
  generalize (lg_sl ([.ref h0]) ++ List.replicate (2 - (lg_sl ([.ref h0])).length) Slot.unset).toArray = ls at hl ⊢
  have hl : lv_has ls 2 [(0, .ref h0)] := hl
  have hin0 : ∀ w ∈ wsX00, w ∈ wsX0_findGap := by decide +kernel
  have hf29 := hts (.fieldLink RX0 29 "SqueezedVolume$Directory" "count" "I") (by decide +kernel)
  have hf16 := hts (.fieldLink RX0 16 "SqueezedVolume$Directory" "kinds" "LSqueezedVolume$Row;") (by decide +kernel)
  have L2 : ∀ (k : Nat) (j : Nat) (x1 : Int32), (j ≤ n.toNatClampNeg - 1) → ((n.toNatClampNeg - 1) + 1 ≤ j + k) → (x1 = nI j) → (z_find (d_pG fk) (n.toNatClampNeg - 1) j = d_gap fk n) → ∀ (ls : Array Slot), lv_has ls 2 [(0, .ref h0), (1, .int x1)] → W p l e ({ frames := 1, cells := 0, slots := 0, locals := 21 }) s m ([.ref h0] : List Value).toArray below meth c s.heap [] 0 0 (MQ below (z_Ro (some (.int (d_gap fk n)))) ([.ref h0] : List Value).toArray s 0 0 (fun _ => False)) (F0 m 2 ls []) := by
    intro k
    induction k with
    | zero =>
      intro j x1 hj hk ex1 er
      exfalso; omega
    | succ k ih =>
      intro j x1 hj hk ex1 er
      intro ls hl
      refine lv_iload_n hx hb dX0_findGap_2 rfl (lv_at hl 1 rfl) ?_
      refine lv_iconst (v := 1) hx hb dX0_findGap_3 (by decide) ?_
      refine lv_iadd hx hb dX0_findGap_4 ?_
      refine lv_aload_n hx hb dX0_findGap_5 rfl (lv_at hl 0 rfl) ?_
      refine va_get (D := D) (ci := 0) (v := .int n) (C := RX0) (T := TX0) (N := 5) hx hb hts hin0 hown hK hP 0 rfl rfl 4 (by decide) hf29 (fun _ h9 => h9) rfl dX0_findGap_6 ?_
      refine lv_icmp_ge (tgt := 44) hx hb dX0_findGap_9 (by decide) (fun c_1 => ?_) (fun c_1 => ?_)
      · skip
        refine lv_iconst (v := -1) hx hb dX0_findGap_44 (by decide) ?_
        exact W.iret (v := -1) hx hb hr (fun t ht hW => ⟨z_ret (z_miss er (z_gp_e hj ex1 c_1)), ht⟩) (fun _ h => nomatch h) dX0_findGap_45
      · skip
        refine lv_aload_n hx hb dX0_findGap_12 rfl (lv_at hl 0 rfl) ?_
        refine va_get (D := D) (ci := 0) (v := .ref a1) (C := RX0) (T := TX0) (N := 5) hx hb hts hin0 hown hK hP 0 rfl rfl 0 (by decide) hf16 (fun _ h9 => h9) rfl dX0_findGap_13 ?_
        refine lv_iload_n hx hb dX0_findGap_16 rfl (lv_at hl 1 rfl) ?_
        refine z_callRi (va_runV (As := [.int x1]) (rest := []) ⟨hx, hb, hml, hown, hts⟩ (c_X2_at l D cI a1 b1 17 fk x1 (by decide)) (cwV 1 hts gX0_findGap_X2_at rfl rfl rfl qd_X2_at ⟨Nat.le_of_ble_eq_true rfl, Nat.le_of_ble_eq_true rfl⟩) ⟨z_Pr_blind, va_recv hK hP (ci := 2) (q0 := 1) rfl rfl, fun U hU hW => ⟨rfl, by rw [hU]; exact hP.sub (ws' := [(a1, .inr (2, [.ref b1])), (b1, .inl (cI, 17, .inl fk))]) [1, 2] rfl, va_K.moved hW.alike hK⟩⟩ rfl rfl hl.1 rfl (lv_room (Nat.le_of_ble_eq_true rfl)) dX0_findGap_17 ⟨Nat.le_of_ble_eq_true rfl, Nat.le_of_ble_eq_true rfl⟩) ?_
        refine lv_if_ne (tgt := 38) hx hb dX0_findGap_20 (by decide) (fun c_2 => ?_) (fun c_2 => ?_)
        · skip
          refine lv_iinc (v := x1 + 1) (lv' := [(1, .int (x1 + 1)), (0, .ref h0)]) hx hb dX0_findGap_38 hl (k := 1) rfl (by rfl) (by decide) rfl (fun ls hl => ?_)
          refine lv_goto (tgt := 2) hx hb dX0_findGap_41 (by decide) ?_
          exact ih (j + 1) (x1 + 1) (z_gp_s hj ex1 c_1) (by omega) (by rw [ex1, nI_succ]) (z_skip er (z_gp_s hj ex1 c_1) (by subst ex1; simp [d_pG, nI_succ, c_2])) ls (lv_sub hl [1, 0] rfl)
        · skip
          refine lv_aload_n hx hb dX0_findGap_23 rfl (lv_at hl 0 rfl) ?_
          refine va_get (D := D) (ci := 0) (v := .ref a1) (C := RX0) (T := TX0) (N := 5) hx hb hts hin0 hown hK hP 0 rfl rfl 0 (by decide) hf16 (fun _ h9 => h9) rfl dX0_findGap_24 ?_
          refine lv_iload_n hx hb dX0_findGap_27 rfl (lv_at hl 1 rfl) ?_
          refine lv_iconst (v := 1) hx hb dX0_findGap_28 (by decide) ?_
          refine lv_iadd hx hb dX0_findGap_29 ?_
          refine z_callRi (va_runV (As := [.int (x1 + 1)]) (rest := []) ⟨hx, hb, hml, hown, hts⟩ (c_X2_at l D cI a1 b1 17 fk (x1 + 1) (by decide)) (cwV 1 hts gX0_findGap_X2_at rfl rfl rfl qd_X2_at ⟨Nat.le_of_ble_eq_true rfl, Nat.le_of_ble_eq_true rfl⟩) ⟨z_Pr_blind, va_recv hK hP (ci := 2) (q0 := 1) rfl rfl, fun U hU hW => ⟨rfl, by rw [hU]; exact hP.sub (ws' := [(a1, .inr (2, [.ref b1])), (b1, .inl (cI, 17, .inl fk))]) [1, 2] rfl, va_K.moved hW.alike hK⟩⟩ rfl rfl hl.1 rfl (lv_room (Nat.le_of_ble_eq_true rfl)) dX0_findGap_30 ⟨Nat.le_of_ble_eq_true rfl, Nat.le_of_ble_eq_true rfl⟩) ?_
          refine lv_if_eq (tgt := 38) hx hb dX0_findGap_33 (by decide) (fun c_3 => ?_) (fun c_3 => ?_)
          · skip
            refine lv_iinc (v := x1 + 1) (lv' := [(1, .int (x1 + 1)), (0, .ref h0)]) hx hb dX0_findGap_38 hl (k := 1) rfl (by rfl) (by decide) rfl (fun ls hl => ?_)
            refine lv_goto (tgt := 2) hx hb dX0_findGap_41 (by decide) ?_
            exact ih (j + 1) (x1 + 1) (z_gp_s hj ex1 c_1) (by omega) (by rw [ex1, nI_succ]) (z_skip er (z_gp_s hj ex1 c_1) (by subst ex1; simp [d_pG, nI_succ, c_2, c_3])) ls (lv_sub hl [1, 0] rfl)
          · skip
            refine lv_iload_n hx hb dX0_findGap_36 rfl (lv_at hl 1 rfl) ?_
            exact W.iret (v := x1) hx hb hr (fun t ht hW => ⟨z_ret (z_hit er (z_gp_s hj ex1 c_1) ex1 (by subst ex1; simp [d_pG, nI_succ, c_2, c_3])), ht⟩) (fun _ h => nomatch h) dX0_findGap_37
  refine lv_iconst (v := 0) hx hb dX0_findGap_0 (by decide) ?_
  refine lv_istore_n (lv' := [(1, .int 0), (0, .ref h0)]) hx hb dX0_findGap_1 rfl hl (by decide) rfl (fun ls hl => ?_)
  exact L2 ((n.toNatClampNeg - 1) + 1) 0 0 (Nat.zero_le _) (by omega) nI_0.symm rfl ls (lv_sub hl [1, 0] rfl)
theorem qd_X0_findRoom : yX0_findRoom.cls = RX0 ∧ yX0_findRoom.cls ≠ "java/lang/invoke/MethodHandle" ∧ yX0_findRoom.cls ≠ "java/lang/invoke/VarHandle" ∧ (parseMethodDescriptor yX0_findRoom.desc).map (fun d => d.parameters.length) = some 1 := by decide +kernel
set_option maxHeartbeats 400000 in
set_option maxRecDepth 100000 in
/-- Directory.findRoom -/
theorem c_X0_findRoom (l : Launch) (D : va_G) (cI : ClassId) (h0 : Nat) (a1 : Nat) (a2 : Nat) (a3 : Nat) (a4 : Nat) (b1 : Nat) (b2 : Nat) (fk : zA) (fl : zA) (n : Int32) (p0 : Int32) : Met l yX0_findRoom wsX0_findRoom ({ frames := 1, cells := 0, slots := 0, locals := 21 }) (z_Pr D cI [.ref h0, .int p0] [(h0, .inr (0, [.ref a1, .ref a2, .ref a3, .ref a4, .int n])), (a1, .inr (2, [.ref b1])), (b1, .inl (cI, 17, .inl fk)), (a2, .inr (2, [.ref b2])), (b2, .inl (cI, 17, .inl fl))]) (z_Ro (some (.int (d_room fk fl n p0)))) 0 0 (fun _ => False) := by
  refine Met.ofW (cc := cX0_findRoom) (maxL := 4) (ret := (some .int)) (by decide) rfl ?_
  intro p e s m args below meth c s₁ B hml hv
  obtain ⟨rfl, hP, hK⟩ := hv
  have hx := B.exec
  have hb := B.bytes
  have hr := B.returns
  have hts := atoms_spec (ws := wsX0_findRoom) B.pre
  have hown : s.vm.findClass RX0 = some m.cls := findClass_of_methodNamed B.named
  have hlocks := B.notSynchronized
  have hP : va_P D vwCl [(h0, .inr (0, [.ref a1, .ref a2, .ref a3, .ref a4, .int n])), (a1, .inr (2, [.ref b1])), (b1, .inl (cI, 17, .inl fk)), (a2, .inr (2, [.ref b2])), (b2, .inl (cI, 17, .inl fl))] s.heap := hP
  have hl := lv_entry ([.ref h0, .int p0]) (n := 4) (Nat.le_of_ble_eq_true rfl)
  rw [lg_entry_eq]
  generalize (lg_sl ([.ref h0, .int p0]) ++ List.replicate (4 - (lg_sl ([.ref h0, .int p0])).length) Slot.unset).toArray = ls at hl ⊢
  have hl : lv_has ls 4 [(0, .ref h0), (1, .int p0)] := hl
  have hin0 : ∀ w ∈ wsX00, w ∈ wsX0_findRoom := by decide +kernel
  have hf29 := hts (.fieldLink RX0 29 "SqueezedVolume$Directory" "count" "I") (by decide +kernel)
  have hf16 := hts (.fieldLink RX0 16 "SqueezedVolume$Directory" "kinds" "LSqueezedVolume$Row;") (by decide +kernel)
  have hf20 := hts (.fieldLink RX0 20 "SqueezedVolume$Directory" "lengths" "LSqueezedVolume$Row;") (by decide +kernel)
  have L4 : ∀ (k : Nat) (j : Nat) (x3 : Int32) (x2 : Int32), (j ≤ n.toNatClampNeg) → (n.toNatClampNeg + 1 ≤ j + k) → (x3 = nI j) → (x2 = d_roomF fk fl p0 j) → ∀ (ls : Array Slot), lv_has ls 4 [(0, .ref h0), (1, .int p0), (2, .int x2), (3, .int x3)] → W p l e ({ frames := 1, cells := 0, slots := 0, locals := 21 }) s m ([.ref h0, .int p0] : List Value).toArray below meth c s.heap [] 0 0 (MQ below (z_Ro (some (.int (d_room fk fl n p0)))) ([.ref h0, .int p0] : List Value).toArray s 0 0 (fun _ => False)) (F0 m 4 ls []) := by
    intro k
    induction k with
    | zero =>
      intro j x3 x2 hj hk ex3 ex2
      exfalso; omega
    | succ k ih =>
      intro j x3 x2 hj hk ex3 ex2
      intro ls hl
      refine lv_iload_n hx hb dX0_findRoom_4 rfl (lv_at hl 3 rfl) ?_
      refine lv_aload_n hx hb dX0_findRoom_5 rfl (lv_at hl 0 rfl) ?_
      refine va_get (D := D) (ci := 0) (v := .int n) (C := RX0) (T := TX0) (N := 5) hx hb hts hin0 hown hK hP 0 rfl rfl 4 (by decide) hf29 (fun _ h9 => h9) rfl dX0_findRoom_6 ?_
      refine lv_icmp_ge (tgt := 67) hx hb dX0_findRoom_9 (by decide) (fun c_1 => ?_) (fun c_1 => ?_)
      · skip
        refine lv_iload_n hx hb dX0_findRoom_67 rfl (lv_at hl 2 rfl) ?_
        exact W.iret (v := x2) hx hb hr (fun t ht hW => ⟨z_ret (by rw [ex2, d_room, z_c_eq hj ex3 c_1]), ht⟩) (fun _ h => nomatch h) dX0_findRoom_68
      · skip
        refine lv_aload_n hx hb dX0_findRoom_12 rfl (lv_at hl 0 rfl) ?_
        refine va_get (D := D) (ci := 0) (v := .ref a1) (C := RX0) (T := TX0) (N := 5) hx hb hts hin0 hown hK hP 0 rfl rfl 0 (by decide) hf16 (fun _ h9 => h9) rfl dX0_findRoom_13 ?_
        refine lv_iload_n hx hb dX0_findRoom_16 rfl (lv_at hl 3 rfl) ?_
        refine z_callRi (va_runV (As := [.int x3]) (rest := []) ⟨hx, hb, hml, hown, hts⟩ (c_X2_at l D cI a1 b1 17 fk x3 (by decide)) (cwV 1 hts gX0_findRoom_X2_at rfl rfl rfl qd_X2_at ⟨Nat.le_of_ble_eq_true rfl, Nat.le_of_ble_eq_true rfl⟩) ⟨z_Pr_blind, va_recv hK hP (ci := 2) (q0 := 1) rfl rfl, fun U hU hW => ⟨rfl, by rw [hU]; exact hP.sub (ws' := [(a1, .inr (2, [.ref b1])), (b1, .inl (cI, 17, .inl fk))]) [1, 2] rfl, va_K.moved hW.alike hK⟩⟩ rfl rfl hl.1 rfl (lv_room (Nat.le_of_ble_eq_true rfl)) dX0_findRoom_17 ⟨Nat.le_of_ble_eq_true rfl, Nat.le_of_ble_eq_true rfl⟩) ?_
        refine lv_if_ne (tgt := 61) hx hb dX0_findRoom_20 (by decide) (fun c_2 => ?_) (fun c_2 => ?_)
        · skip
          refine lv_iinc (v := x3 + 1) (lv' := [(3, .int (x3 + 1)), (0, .ref h0), (1, .int p0), (2, .int x2)]) hx hb dX0_findRoom_61 hl (k := 3) rfl (by rfl) (by decide) rfl (fun ls hl => ?_)
          refine lv_goto (tgt := 4) hx hb dX0_findRoom_64 (by decide) ?_
          exact ih (j + 1) (x3 + 1) x2 (z_c_g hj ex3 c_1) (by omega) (by rw [ex3, nI_succ]) (by subst ex2 ex3; simp only [d_roomF, if_neg c_2]) ls (lv_sub hl [1, 2, 3, 0] rfl)
        · skip
          refine lv_aload_n hx hb dX0_findRoom_23 rfl (lv_at hl 0 rfl) ?_
          refine va_get (D := D) (ci := 0) (v := .ref a2) (C := RX0) (T := TX0) (N := 5) hx hb hts hin0 hown hK hP 0 rfl rfl 1 (by decide) hf20 (fun _ h9 => h9) rfl dX0_findRoom_24 ?_
          refine lv_iload_n hx hb dX0_findRoom_27 rfl (lv_at hl 3 rfl) ?_
          refine z_callRi (va_runV (As := [.int x3]) (rest := []) ⟨hx, hb, hml, hown, hts⟩ (c_X2_at l D cI a2 b2 17 fl x3 (by decide)) (cwV 1 hts gX0_findRoom_X2_at rfl rfl rfl qd_X2_at ⟨Nat.le_of_ble_eq_true rfl, Nat.le_of_ble_eq_true rfl⟩) ⟨z_Pr_blind, va_recv hK hP (ci := 2) (q0 := 3) rfl rfl, fun U hU hW => ⟨rfl, by rw [hU]; exact hP.sub (ws' := [(a2, .inr (2, [.ref b2])), (b2, .inl (cI, 17, .inl fl))]) [3, 4] rfl, va_K.moved hW.alike hK⟩⟩ rfl rfl hl.1 rfl (lv_room (Nat.le_of_ble_eq_true rfl)) dX0_findRoom_28 ⟨Nat.le_of_ble_eq_true rfl, Nat.le_of_ble_eq_true rfl⟩) ?_
          refine lv_iload_n hx hb dX0_findRoom_31 rfl (lv_at hl 1 rfl) ?_
          refine lv_icmp_lt (tgt := 61) hx hb dX0_findRoom_32 (by decide) (fun c_3 => ?_) (fun c_3 => ?_)
          · skip
            refine lv_iinc (v := x3 + 1) (lv' := [(3, .int (x3 + 1)), (0, .ref h0), (1, .int p0), (2, .int x2)]) hx hb dX0_findRoom_61 hl (k := 3) rfl (by rfl) (by decide) rfl (fun ls hl => ?_)
            refine lv_goto (tgt := 4) hx hb dX0_findRoom_64 (by decide) ?_
            exact ih (j + 1) (x3 + 1) x2 (z_c_g hj ex3 c_1) (by omega) (by rw [ex3, nI_succ]) (by subst ex2 ex3; simp only [d_roomF, if_pos c_2, if_pos c_3]) ls (lv_sub hl [1, 2, 3, 0] rfl)
          · skip
            refine lv_iload_n hx hb dX0_findRoom_35 rfl (lv_at hl 2 rfl) ?_
            refine lv_iconst (v := -1) hx hb dX0_findRoom_36 (by decide) ?_
            refine lv_icmp_eq (tgt := 59) hx hb dX0_findRoom_37 (by decide) (fun c_4 => ?_) (fun c_4 => ?_)
            · skip
              refine lv_iload_n hx hb dX0_findRoom_59 rfl (lv_at hl 3 rfl) ?_
              refine lv_istore_n (lv' := [(2, .int x3), (0, .ref h0), (1, .int p0), (3, .int x3)]) hx hb dX0_findRoom_60 rfl hl (by decide) rfl (fun ls hl => ?_)
              refine lv_iinc (v := x3 + 1) (lv' := [(3, .int (x3 + 1)), (2, .int x3), (0, .ref h0), (1, .int p0)]) hx hb dX0_findRoom_61 hl (k := 3) rfl (by rfl) (by decide) rfl (fun ls hl => ?_)
              refine lv_goto (tgt := 4) hx hb dX0_findRoom_64 (by decide) ?_
              exact ih (j + 1) (x3 + 1) x3 (z_c_g hj ex3 c_1) (by omega) (by rw [ex3, nI_succ]) (by subst ex2 ex3; simp only [d_roomF, if_pos c_2, if_neg c_3, if_pos c_4]) ls (lv_sub hl [2, 3, 1, 0] rfl)
            · skip
              refine lv_aload_n hx hb dX0_findRoom_40 rfl (lv_at hl 0 rfl) ?_
              refine va_get (D := D) (ci := 0) (v := .ref a2) (C := RX0) (T := TX0) (N := 5) hx hb hts hin0 hown hK hP 0 rfl rfl 1 (by decide) hf20 (fun _ h9 => h9) rfl dX0_findRoom_41 ?_
              refine lv_iload_n hx hb dX0_findRoom_44 rfl (lv_at hl 3 rfl) ?_
              refine z_callRi (va_runV (As := [.int x3]) (rest := []) ⟨hx, hb, hml, hown, hts⟩ (c_X2_at l D cI a2 b2 17 fl x3 (by decide)) (cwV 1 hts gX0_findRoom_X2_at rfl rfl rfl qd_X2_at ⟨Nat.le_of_ble_eq_true rfl, Nat.le_of_ble_eq_true rfl⟩) ⟨z_Pr_blind, va_recv hK hP (ci := 2) (q0 := 3) rfl rfl, fun U hU hW => ⟨rfl, by rw [hU]; exact hP.sub (ws' := [(a2, .inr (2, [.ref b2])), (b2, .inl (cI, 17, .inl fl))]) [3, 4] rfl, va_K.moved hW.alike hK⟩⟩ rfl rfl hl.1 rfl (lv_room (Nat.le_of_ble_eq_true rfl)) dX0_findRoom_45 ⟨Nat.le_of_ble_eq_true rfl, Nat.le_of_ble_eq_true rfl⟩) ?_
              refine lv_aload_n hx hb dX0_findRoom_48 rfl (lv_at hl 0 rfl) ?_
              refine va_get (D := D) (ci := 0) (v := .ref a2) (C := RX0) (T := TX0) (N := 5) hx hb hts hin0 hown hK hP 0 rfl rfl 1 (by decide) hf20 (fun _ h9 => h9) rfl dX0_findRoom_49 ?_
              refine lv_iload_n hx hb dX0_findRoom_52 rfl (lv_at hl 2 rfl) ?_
              refine z_callRi (va_runV (As := [.int x2]) (rest := [.int (r_at 17 fl x3)]) ⟨hx, hb, hml, hown, hts⟩ (c_X2_at l D cI a2 b2 17 fl x2 (by decide)) (cwV 1 hts gX0_findRoom_X2_at rfl rfl rfl qd_X2_at ⟨Nat.le_of_ble_eq_true rfl, Nat.le_of_ble_eq_true rfl⟩) ⟨z_Pr_blind, va_recv hK hP (ci := 2) (q0 := 3) rfl rfl, fun U hU hW => ⟨rfl, by rw [hU]; exact hP.sub (ws' := [(a2, .inr (2, [.ref b2])), (b2, .inl (cI, 17, .inl fl))]) [3, 4] rfl, va_K.moved hW.alike hK⟩⟩ rfl rfl hl.1 rfl (lv_room (Nat.le_of_ble_eq_true rfl)) dX0_findRoom_53 ⟨Nat.le_of_ble_eq_true rfl, Nat.le_of_ble_eq_true rfl⟩) ?_
              refine lv_icmp_ge (tgt := 61) hx hb dX0_findRoom_56 (by decide) (fun c_5 => ?_) (fun c_5 => ?_)
              · skip
                refine lv_iinc (v := x3 + 1) (lv' := [(3, .int (x3 + 1)), (0, .ref h0), (1, .int p0), (2, .int x2)]) hx hb dX0_findRoom_61 hl (k := 3) rfl (by rfl) (by decide) rfl (fun ls hl => ?_)
                refine lv_goto (tgt := 4) hx hb dX0_findRoom_64 (by decide) ?_
                exact ih (j + 1) (x3 + 1) x2 (z_c_g hj ex3 c_1) (by omega) (by rw [ex3, nI_succ]) (by subst ex2 ex3; simp only [d_roomF, if_pos c_2, if_neg c_3, if_neg c_4, if_pos c_5]) ls (lv_sub hl [1, 2, 3, 0] rfl)
              · skip
                refine lv_iload_n hx hb dX0_findRoom_59 rfl (lv_at hl 3 rfl) ?_
                refine lv_istore_n (lv' := [(2, .int x3), (0, .ref h0), (1, .int p0), (3, .int x3)]) hx hb dX0_findRoom_60 rfl hl (by decide) rfl (fun ls hl => ?_)
                refine lv_iinc (v := x3 + 1) (lv' := [(3, .int (x3 + 1)), (2, .int x3), (0, .ref h0), (1, .int p0)]) hx hb dX0_findRoom_61 hl (k := 3) rfl (by rfl) (by decide) rfl (fun ls hl => ?_)
                refine lv_goto (tgt := 4) hx hb dX0_findRoom_64 (by decide) ?_
                exact ih (j + 1) (x3 + 1) x3 (z_c_g hj ex3 c_1) (by omega) (by rw [ex3, nI_succ]) (by subst ex2 ex3; simp only [d_roomF, if_pos c_2, if_neg c_3, if_neg c_4, if_neg c_5]) ls (lv_sub hl [2, 3, 1, 0] rfl)
  refine lv_iconst (v := -1) hx hb dX0_findRoom_0 (by decide) ?_
  refine lv_istore_n (lv' := [(2, .int (-1)), (0, .ref h0), (1, .int p0)]) hx hb dX0_findRoom_1 rfl hl (by decide) rfl (fun ls hl => ?_)
  refine lv_iconst (v := 0) hx hb dX0_findRoom_2 (by decide) ?_
  refine lv_istore_n (lv' := [(3, .int 0), (2, .int (-1)), (0, .ref h0), (1, .int p0)]) hx hb dX0_findRoom_3 rfl hl (by decide) rfl (fun ls hl => ?_)
  exact L4 (n.toNatClampNeg + 1) 0 0 (-1) (Nat.zero_le _) (by omega) nI_0.symm rfl ls (lv_sub hl [2, 3, 1, 0] rfl)
theorem qd_X0_longestEmpty : yX0_longestEmpty.cls = RX0 ∧ yX0_longestEmpty.cls ≠ "java/lang/invoke/MethodHandle" ∧ yX0_longestEmpty.cls ≠ "java/lang/invoke/VarHandle" ∧ (parseMethodDescriptor yX0_longestEmpty.desc).map (fun d => d.parameters.length) = some 0 := by decide +kernel
set_option maxHeartbeats 400000 in
set_option maxRecDepth 100000 in
/-- Directory.longestEmpty -/
theorem c_X0_longestEmpty (l : Launch) (D : va_G) (cI : ClassId) (h0 : Nat) (a1 : Nat) (a2 : Nat) (a3 : Nat) (a4 : Nat) (b1 : Nat) (b2 : Nat) (fk : zA) (fl : zA) (n : Int32) : Met l yX0_longestEmpty wsX0_longestEmpty ({ frames := 1, cells := 0, slots := 0, locals := 21 }) (z_Pr D cI [.ref h0] [(h0, .inr (0, [.ref a1, .ref a2, .ref a3, .ref a4, .int n])), (a1, .inr (2, [.ref b1])), (b1, .inl (cI, 17, .inl fk)), (a2, .inr (2, [.ref b2])), (b2, .inl (cI, 17, .inl fl))]) (z_Ro (some (.int (d_long fk fl n)))) 0 0 (fun _ => False) := by
  refine Met.ofW (cc := cX0_longestEmpty) (maxL := 3) (ret := (some .int)) (by decide) rfl ?_
  intro p e s m args below meth c s₁ B hml hv
  obtain ⟨rfl, hP, hK⟩ := hv
  have hx := B.exec
  have hb := B.bytes
  have hr := B.returns
  have hts := atoms_spec (ws := wsX0_longestEmpty) B.pre
  have hown : s.vm.findClass RX0 = some m.cls := findClass_of_methodNamed B.named
  have hlocks := B.notSynchronized
  have hP : va_P D vwCl [(h0, .inr (0, [.ref a1, .ref a2, .ref a3, .ref a4, .int n])), (a1, .inr (2, [.ref b1])), (b1, .inl (cI, 17, .inl fk)), (a2, .inr (2, [.ref b2])), (b2, .inl (cI, 17, .inl fl))] s.heap := hP
  have hl := lv_entry ([.ref h0]) (n := 3) (Nat.le_of_ble_eq_true rfl)
  rw [lg_entry_eq]
  generalize (lg_sl ([.ref h0]) ++ List.replicate (3 - (lg_sl ([.ref h0])).length) Slot.unset).toArray = ls at hl ⊢
  have hl : lv_has ls 3 [(0, .ref h0)] := hl
  have hin0 : ∀ w ∈ wsX00, w ∈ wsX0_longestEmpty := by decide +kernel
  have hf29 := hts (.fieldLink RX0 29 "SqueezedVolume$Directory" "count" "I") (by decide +kernel)
  have hf16 := hts (.fieldLink RX0 16 "SqueezedVolume$Directory" "kinds" "LSqueezedVolume$Row;") (by decide +kernel)
  have hf20 := hts (.fieldLink RX0 20 "SqueezedVolume$Directory" "lengths" "LSqueezedVolume$Row;") (by decide +kernel)
  have hm70 := hts (Cond.methodLink RX0 70 Lib.Math.max.name) (by decide +kernel)
  have hms_max := hts (Cond.static Lib.Math.max.name) (by decide +kernel)
  have hmi := hts (Cond.initialized "java/lang/Math") (by decide +kernel)
  have hmc_max := hts (Cond.code Lib.Math.max.name Lib.Math.max.code 2 (some .int)) (by decide +kernel)
  have L4 : ∀ (k : Nat) (j : Nat) (x2 : Int32) (x1 : Int32), (j ≤ n.toNatClampNeg) → (n.toNatClampNeg + 1 ≤ j + k) → (x2 = nI j) → (x1 = d_longF fk fl j) → ∀ (ls : Array Slot), lv_has ls 3 [(0, .ref h0), (1, .int x1), (2, .int x2)] → W p l e ({ frames := 1, cells := 0, slots := 0, locals := 21 }) s m ([.ref h0] : List Value).toArray below meth c s.heap [] 0 0 (MQ below (z_Ro (some (.int (d_long fk fl n)))) ([.ref h0] : List Value).toArray s 0 0 (fun _ => False)) (F0 m 4 ls []) := by
    intro k
    induction k with
    | zero =>
      intro j x2 x1 hj hk ex2 ex1
      exfalso; omega
    | succ k ih =>
      intro j x2 x1 hj hk ex2 ex1
      intro ls hl
      refine lv_iload_n hx hb dX0_longestEmpty_4 rfl (lv_at hl 2 rfl) ?_
      refine lv_aload_n hx hb dX0_longestEmpty_5 rfl (lv_at hl 0 rfl) ?_
      refine va_get (D := D) (ci := 0) (v := .int n) (C := RX0) (T := TX0) (N := 5) hx hb hts hin0 hown hK hP 0 rfl rfl 4 (by decide) hf29 (fun _ h9 => h9) rfl dX0_longestEmpty_6 ?_
      refine lv_icmp_ge (tgt := 42) hx hb dX0_longestEmpty_9 (by decide) (fun c_1 => ?_) (fun c_1 => ?_)
      · skip
        refine lv_iload_n hx hb dX0_longestEmpty_42 rfl (lv_at hl 1 rfl) ?_
        exact W.iret (v := x1) hx hb hr (fun t ht hW => ⟨z_ret (by rw [ex1, d_long, z_c_eq hj ex2 c_1]), ht⟩) (fun _ h => nomatch h) dX0_longestEmpty_43
      · skip
        refine lv_aload_n hx hb dX0_longestEmpty_12 rfl (lv_at hl 0 rfl) ?_
        refine va_get (D := D) (ci := 0) (v := .ref a1) (C := RX0) (T := TX0) (N := 5) hx hb hts hin0 hown hK hP 0 rfl rfl 0 (by decide) hf16 (fun _ h9 => h9) rfl dX0_longestEmpty_13 ?_
        refine lv_iload_n hx hb dX0_longestEmpty_16 rfl (lv_at hl 2 rfl) ?_
        refine z_callRi (va_runV (As := [.int x2]) (rest := []) ⟨hx, hb, hml, hown, hts⟩ (c_X2_at l D cI a1 b1 17 fk x2 (by decide)) (cwV 1 hts gX0_longestEmpty_X2_at rfl rfl rfl qd_X2_at ⟨Nat.le_of_ble_eq_true rfl, Nat.le_of_ble_eq_true rfl⟩) ⟨z_Pr_blind, va_recv hK hP (ci := 2) (q0 := 1) rfl rfl, fun U hU hW => ⟨rfl, by rw [hU]; exact hP.sub (ws' := [(a1, .inr (2, [.ref b1])), (b1, .inl (cI, 17, .inl fk))]) [1, 2] rfl, va_K.moved hW.alike hK⟩⟩ rfl rfl hl.1 rfl (lv_room (Nat.le_of_ble_eq_true rfl)) dX0_longestEmpty_17 ⟨Nat.le_of_ble_eq_true rfl, Nat.le_of_ble_eq_true rfl⟩) ?_
        refine lv_if_ne (tgt := 36) hx hb dX0_longestEmpty_20 (by decide) (fun c_2 => ?_) (fun c_2 => ?_)
        · skip
          refine lv_iinc (v := x2 + 1) (lv' := [(2, .int (x2 + 1)), (0, .ref h0), (1, .int x1)]) hx hb dX0_longestEmpty_36 hl (k := 2) rfl (by rfl) (by decide) rfl (fun ls hl => ?_)
          refine lv_goto (tgt := 4) hx hb dX0_longestEmpty_39 (by decide) ?_
          exact ih (j + 1) (x2 + 1) x1 (z_c_g hj ex2 c_1) (by omega) (by rw [ex2, nI_succ]) (by subst ex1 ex2; simp only [d_longF, i_max, if_neg c_2]) ls (lv_sub hl [1, 2, 0] rfl)
        · skip
          refine lv_iload_n hx hb dX0_longestEmpty_23 rfl (lv_at hl 1 rfl) ?_
          refine lv_aload_n hx hb dX0_longestEmpty_24 rfl (lv_at hl 0 rfl) ?_
          refine va_get (D := D) (ci := 0) (v := .ref a2) (C := RX0) (T := TX0) (N := 5) hx hb hts hin0 hown hK hP 0 rfl rfl 1 (by decide) hf20 (fun _ h9 => h9) rfl dX0_longestEmpty_25 ?_
          refine lv_iload_n hx hb dX0_longestEmpty_28 rfl (lv_at hl 2 rfl) ?_
          refine z_callRi (va_runV (As := [.int x2]) (rest := [.int x1]) ⟨hx, hb, hml, hown, hts⟩ (c_X2_at l D cI a2 b2 17 fl x2 (by decide)) (cwV 1 hts gX0_longestEmpty_X2_at rfl rfl rfl qd_X2_at ⟨Nat.le_of_ble_eq_true rfl, Nat.le_of_ble_eq_true rfl⟩) ⟨z_Pr_blind, va_recv hK hP (ci := 2) (q0 := 3) rfl rfl, fun U hU hW => ⟨rfl, by rw [hU]; exact hP.sub (ws' := [(a2, .inr (2, [.ref b2])), (b2, .inl (cI, 17, .inl fl))]) [3, 4] rfl, va_K.moved hW.alike hK⟩⟩ rfl rfl hl.1 rfl (lv_room (Nat.le_of_ble_eq_true rfl)) dX0_longestEmpty_29 ⟨Nat.le_of_ble_eq_true rfl, Nat.le_of_ble_eq_true rfl⟩) ?_
          refine va_mmax hx hb (by rw [hml]; exact hl.1.symm) hown hm70 hms_max hmi hmc_max (Nat.le_of_ble_eq_true rfl) (Nat.le_of_ble_eq_true rfl) (Nat.le_of_ble_eq_true rfl) (Nat.le_of_ble_eq_true rfl) dX0_longestEmpty_32 ?_
          refine lv_istore_n (lv' := [(1, .int (if x1 < r_at 17 fl x2 then r_at 17 fl x2 else x1)), (0, .ref h0), (2, .int x2)]) hx hb dX0_longestEmpty_35 rfl hl (by decide) rfl (fun ls hl => ?_)
          refine lv_iinc (v := x2 + 1) (lv' := [(2, .int (x2 + 1)), (1, .int (if x1 < r_at 17 fl x2 then r_at 17 fl x2 else x1)), (0, .ref h0)]) hx hb dX0_longestEmpty_36 hl (k := 2) rfl (by rfl) (by decide) rfl (fun ls hl => ?_)
          refine lv_goto (tgt := 4) hx hb dX0_longestEmpty_39 (by decide) ?_
          exact ih (j + 1) (x2 + 1) (if x1 < r_at 17 fl x2 then r_at 17 fl x2 else x1) (z_c_g hj ex2 c_1) (by omega) (by rw [ex2, nI_succ]) (by subst ex1 ex2; simp only [d_longF, i_max, if_pos c_2]) ls (lv_sub hl [2, 1, 0] rfl)
  refine lv_iconst (v := 0) hx hb dX0_longestEmpty_0 (by decide) ?_
  refine lv_istore_n (lv' := [(1, .int 0), (0, .ref h0)]) hx hb dX0_longestEmpty_1 rfl hl (by decide) rfl (fun ls hl => ?_)
  refine lv_iconst (v := 0) hx hb dX0_longestEmpty_2 (by decide) ?_
  refine lv_istore_n (lv' := [(2, .int 0), (1, .int 0), (0, .ref h0)]) hx hb dX0_longestEmpty_3 rfl hl (by decide) rfl (fun ls hl => ?_)
  exact L4 (n.toNatClampNeg + 1) 0 0 0 (Nat.zero_le _) (by omega) nI_0.symm rfl ls (lv_sub hl [2, 1, 0] rfl)
theorem qd_X0_emptyBlocks : yX0_emptyBlocks.cls = RX0 ∧ yX0_emptyBlocks.cls ≠ "java/lang/invoke/MethodHandle" ∧ yX0_emptyBlocks.cls ≠ "java/lang/invoke/VarHandle" ∧ (parseMethodDescriptor yX0_emptyBlocks.desc).map (fun d => d.parameters.length) = some 0 := by decide +kernel
set_option maxHeartbeats 400000 in
set_option maxRecDepth 100000 in
/-- Directory.emptyBlocks -/
theorem c_X0_emptyBlocks (l : Launch) (D : va_G) (cI : ClassId) (h0 : Nat) (a1 : Nat) (a2 : Nat) (a3 : Nat) (a4 : Nat) (b1 : Nat) (b2 : Nat) (fk : zA) (fl : zA) (n : Int32) : Met l yX0_emptyBlocks wsX0_emptyBlocks ({ frames := 1, cells := 0, slots := 0, locals := 21 }) (z_Pr D cI [.ref h0] [(h0, .inr (0, [.ref a1, .ref a2, .ref a3, .ref a4, .int n])), (a1, .inr (2, [.ref b1])), (b1, .inl (cI, 17, .inl fk)), (a2, .inr (2, [.ref b2])), (b2, .inl (cI, 17, .inl fl))]) (z_Ro (some (.int (d_emp fk fl n)))) 0 0 (fun _ => False) := by
  refine Met.ofW (cc := cX0_emptyBlocks) (maxL := 3) (ret := (some .int)) (by decide) rfl ?_
  intro p e s m args below meth c s₁ B hml hv
  obtain ⟨rfl, hP, hK⟩ := hv
  have hx := B.exec
  have hb := B.bytes
  have hr := B.returns
  have hts := atoms_spec (ws := wsX0_emptyBlocks) B.pre
  have hown : s.vm.findClass RX0 = some m.cls := findClass_of_methodNamed B.named
  have hlocks := B.notSynchronized
  have hP : va_P D vwCl [(h0, .inr (0, [.ref a1, .ref a2, .ref a3, .ref a4, .int n])), (a1, .inr (2, [.ref b1])), (b1, .inl (cI, 17, .inl fk)), (a2, .inr (2, [.ref b2])), (b2, .inl (cI, 17, .inl fl))] s.heap := hP
  have hl := lv_entry ([.ref h0]) (n := 3) (Nat.le_of_ble_eq_true rfl)
  rw [lg_entry_eq]
  generalize (lg_sl ([.ref h0]) ++ List.replicate (3 - (lg_sl ([.ref h0])).length) Slot.unset).toArray = ls at hl ⊢
  have hl : lv_has ls 3 [(0, .ref h0)] := hl
  have hin0 : ∀ w ∈ wsX00, w ∈ wsX0_emptyBlocks := by decide +kernel
  have hf29 := hts (.fieldLink RX0 29 "SqueezedVolume$Directory" "count" "I") (by decide +kernel)
  have hf16 := hts (.fieldLink RX0 16 "SqueezedVolume$Directory" "kinds" "LSqueezedVolume$Row;") (by decide +kernel)
  have hf20 := hts (.fieldLink RX0 20 "SqueezedVolume$Directory" "lengths" "LSqueezedVolume$Row;") (by decide +kernel)
  have L4 : ∀ (k : Nat) (j : Nat) (x2 : Int32) (x1 : Int32), (j ≤ n.toNatClampNeg) → (n.toNatClampNeg + 1 ≤ j + k) → (x2 = nI j) → (x1 = d_empF fk fl j) → ∀ (ls : Array Slot), lv_has ls 3 [(0, .ref h0), (1, .int x1), (2, .int x2)] → W p l e ({ frames := 1, cells := 0, slots := 0, locals := 21 }) s m ([.ref h0] : List Value).toArray below meth c s.heap [] 0 0 (MQ below (z_Ro (some (.int (d_emp fk fl n)))) ([.ref h0] : List Value).toArray s 0 0 (fun _ => False)) (F0 m 4 ls []) := by
    intro k
    induction k with
    | zero =>
      intro j x2 x1 hj hk ex2 ex1
      exfalso; omega
    | succ k ih =>
      intro j x2 x1 hj hk ex2 ex1
      intro ls hl
      refine lv_iload_n hx hb dX0_emptyBlocks_4 rfl (lv_at hl 2 rfl) ?_
      refine lv_aload_n hx hb dX0_emptyBlocks_5 rfl (lv_at hl 0 rfl) ?_
      refine va_get (D := D) (ci := 0) (v := .int n) (C := RX0) (T := TX0) (N := 5) hx hb hts hin0 hown hK hP 0 rfl rfl 4 (by decide) hf29 (fun _ h9 => h9) rfl dX0_emptyBlocks_6 ?_
      refine lv_icmp_ge (tgt := 40) hx hb dX0_emptyBlocks_9 (by decide) (fun c_1 => ?_) (fun c_1 => ?_)
      · skip
        refine lv_iload_n hx hb dX0_emptyBlocks_40 rfl (lv_at hl 1 rfl) ?_
        exact W.iret (v := x1) hx hb hr (fun t ht hW => ⟨z_ret (by rw [ex1, d_emp, z_c_eq hj ex2 c_1]), ht⟩) (fun _ h => nomatch h) dX0_emptyBlocks_41
      · skip
        refine lv_aload_n hx hb dX0_emptyBlocks_12 rfl (lv_at hl 0 rfl) ?_
        refine va_get (D := D) (ci := 0) (v := .ref a1) (C := RX0) (T := TX0) (N := 5) hx hb hts hin0 hown hK hP 0 rfl rfl 0 (by decide) hf16 (fun _ h9 => h9) rfl dX0_emptyBlocks_13 ?_
        refine lv_iload_n hx hb dX0_emptyBlocks_16 rfl (lv_at hl 2 rfl) ?_
        refine z_callRi (va_runV (As := [.int x2]) (rest := []) ⟨hx, hb, hml, hown, hts⟩ (c_X2_at l D cI a1 b1 17 fk x2 (by decide)) (cwV 1 hts gX0_emptyBlocks_X2_at rfl rfl rfl qd_X2_at ⟨Nat.le_of_ble_eq_true rfl, Nat.le_of_ble_eq_true rfl⟩) ⟨z_Pr_blind, va_recv hK hP (ci := 2) (q0 := 1) rfl rfl, fun U hU hW => ⟨rfl, by rw [hU]; exact hP.sub (ws' := [(a1, .inr (2, [.ref b1])), (b1, .inl (cI, 17, .inl fk))]) [1, 2] rfl, va_K.moved hW.alike hK⟩⟩ rfl rfl hl.1 rfl (lv_room (Nat.le_of_ble_eq_true rfl)) dX0_emptyBlocks_17 ⟨Nat.le_of_ble_eq_true rfl, Nat.le_of_ble_eq_true rfl⟩) ?_
        refine lv_if_ne (tgt := 34) hx hb dX0_emptyBlocks_20 (by decide) (fun c_2 => ?_) (fun c_2 => ?_)
        · skip
          refine lv_iinc (v := x2 + 1) (lv' := [(2, .int (x2 + 1)), (0, .ref h0), (1, .int x1)]) hx hb dX0_emptyBlocks_34 hl (k := 2) rfl (by rfl) (by decide) rfl (fun ls hl => ?_)
          refine lv_goto (tgt := 4) hx hb dX0_emptyBlocks_37 (by decide) ?_
          exact ih (j + 1) (x2 + 1) x1 (z_c_g hj ex2 c_1) (by omega) (by rw [ex2, nI_succ]) (by subst ex1 ex2; simp only [d_empF, if_neg c_2]) ls (lv_sub hl [1, 2, 0] rfl)
        · skip
          refine lv_iload_n hx hb dX0_emptyBlocks_23 rfl (lv_at hl 1 rfl) ?_
          refine lv_aload_n hx hb dX0_emptyBlocks_24 rfl (lv_at hl 0 rfl) ?_
          refine va_get (D := D) (ci := 0) (v := .ref a2) (C := RX0) (T := TX0) (N := 5) hx hb hts hin0 hown hK hP 0 rfl rfl 1 (by decide) hf20 (fun _ h9 => h9) rfl dX0_emptyBlocks_25 ?_
          refine lv_iload_n hx hb dX0_emptyBlocks_28 rfl (lv_at hl 2 rfl) ?_
          refine z_callRi (va_runV (As := [.int x2]) (rest := [.int x1]) ⟨hx, hb, hml, hown, hts⟩ (c_X2_at l D cI a2 b2 17 fl x2 (by decide)) (cwV 1 hts gX0_emptyBlocks_X2_at rfl rfl rfl qd_X2_at ⟨Nat.le_of_ble_eq_true rfl, Nat.le_of_ble_eq_true rfl⟩) ⟨z_Pr_blind, va_recv hK hP (ci := 2) (q0 := 3) rfl rfl, fun U hU hW => ⟨rfl, by rw [hU]; exact hP.sub (ws' := [(a2, .inr (2, [.ref b2])), (b2, .inl (cI, 17, .inl fl))]) [3, 4] rfl, va_K.moved hW.alike hK⟩⟩ rfl rfl hl.1 rfl (lv_room (Nat.le_of_ble_eq_true rfl)) dX0_emptyBlocks_29 ⟨Nat.le_of_ble_eq_true rfl, Nat.le_of_ble_eq_true rfl⟩) ?_
          refine lv_iadd hx hb dX0_emptyBlocks_32 ?_
          refine lv_istore_n (lv' := [(1, .int (x1 + (r_at 17 fl x2))), (0, .ref h0), (2, .int x2)]) hx hb dX0_emptyBlocks_33 rfl hl (by decide) rfl (fun ls hl => ?_)
          refine lv_iinc (v := x2 + 1) (lv' := [(2, .int (x2 + 1)), (1, .int (x1 + (r_at 17 fl x2))), (0, .ref h0)]) hx hb dX0_emptyBlocks_34 hl (k := 2) rfl (by rfl) (by decide) rfl (fun ls hl => ?_)
          refine lv_goto (tgt := 4) hx hb dX0_emptyBlocks_37 (by decide) ?_
          exact ih (j + 1) (x2 + 1) (x1 + (r_at 17 fl x2)) (z_c_g hj ex2 c_1) (by omega) (by rw [ex2, nI_succ]) (by subst ex1 ex2; simp only [d_empF, if_pos c_2]) ls (lv_sub hl [2, 1, 0] rfl)
  refine lv_iconst (v := 0) hx hb dX0_emptyBlocks_0 (by decide) ?_
  refine lv_istore_n (lv' := [(1, .int 0), (0, .ref h0)]) hx hb dX0_emptyBlocks_1 rfl hl (by decide) rfl (fun ls hl => ?_)
  refine lv_iconst (v := 0) hx hb dX0_emptyBlocks_2 (by decide) ?_
  refine lv_istore_n (lv' := [(2, .int 0), (1, .int 0), (0, .ref h0)]) hx hb dX0_emptyBlocks_3 rfl hl (by decide) rfl (fun ls hl => ?_)
  exact L4 (n.toNatClampNeg + 1) 0 0 0 (Nat.zero_le _) (by omega) nI_0.symm rfl ls (lv_sub hl [2, 1, 0] rfl)
theorem qd_X0_roomToSpare : yX0_roomToSpare.cls = RX0 ∧ yX0_roomToSpare.cls ≠ "java/lang/invoke/MethodHandle" ∧ yX0_roomToSpare.cls ≠ "java/lang/invoke/VarHandle" ∧ (parseMethodDescriptor yX0_roomToSpare.desc).map (fun d => d.parameters.length) = some 0 := by decide +kernel
set_option maxHeartbeats 400000 in
set_option maxRecDepth 100000 in
/-- Directory.roomToSpare -/
theorem c_X0_roomToSpare (l : Launch) (D : va_G) (cI : ClassId) (h0 : Nat) (a1 : Nat) (a2 : Nat) (a3 : Nat) (a4 : Nat) (b1 : Nat) (b2 : Nat) (fk : zA) (fl : zA) (n : Int32) : Met l yX0_roomToSpare wsX0_roomToSpare ({ frames := 1, cells := 0, slots := 0, locals := 21 }) (z_Pr D cI [.ref h0] [(h0, .inr (0, [.ref a1, .ref a2, .ref a3, .ref a4, .int n])), (a1, .inr (2, [.ref b1])), (b1, .inl (cI, 17, .inl fk)), (a2, .inr (2, [.ref b2])), (b2, .inl (cI, 17, .inl fl))]) (z_Ro (some (.int (d_spare fk fl n)))) 0 0 (fun _ => False) := by
  refine Met.ofW (cc := cX0_roomToSpare) (maxL := 5) (ret := (some .int)) (by decide) rfl ?_
  intro p e s m args below meth c s₁ B hml hv
  obtain ⟨rfl, hP, hK⟩ := hv
  have hx := B.exec
  have hb := B.bytes
  have hr := B.returns
  have hts := atoms_spec (ws := wsX0_roomToSpare) B.pre
  have hown : s.vm.findClass RX0 = some m.cls := findClass_of_methodNamed B.named
  have hlocks := B.notSynchronized
  have hP : va_P D vwCl [(h0, .inr (0, [.ref a1, .ref a2, .ref a3, .ref a4, .int n])), (a1, .inr (2, [.ref b1])), (b1, .inl (cI, 17, .inl fk)), (a2, .inr (2, [.ref b2])), (b2, .inl (cI, 17, .inl fl))] s.heap := hP
  have hl := lv_entry ([.ref h0]) (n := 5) (Nat.le_of_ble_eq_true rfl)
  rw [lg_entry_eq]
  generalize (lg_sl ([.ref h0]) ++ List.replicate (5 - (lg_sl ([.ref h0])).length) Slot.unset).toArray = ls at hl ⊢
  have hl : lv_has ls 5 [(0, .ref h0)] := hl
  have hin0 : ∀ w ∈ wsX00, w ∈ wsX0_roomToSpare := by decide +kernel
  have hf29 := hts (.fieldLink RX0 29 "SqueezedVolume$Directory" "count" "I") (by decide +kernel)
  have hm70 := hts (Cond.methodLink RX0 70 Lib.Math.max.name) (by decide +kernel)
  have hms_max := hts (Cond.static Lib.Math.max.name) (by decide +kernel)
  have hmi := hts (Cond.initialized "java/lang/Math") (by decide +kernel)
  have hmc_max := hts (Cond.code Lib.Math.max.name Lib.Math.max.code 2 (some .int)) (by decide +kernel)
  have hf16 := hts (.fieldLink RX0 16 "SqueezedVolume$Directory" "kinds" "LSqueezedVolume$Row;") (by decide +kernel)
  have hm64 := hts (Cond.methodLink RX0 64 Lib.Math.min.name) (by decide +kernel)
  have hms_min := hts (Cond.static Lib.Math.min.name) (by decide +kernel)
  have hmc_min := hts (Cond.code Lib.Math.min.name Lib.Math.min.code 2 (some .int)) (by decide +kernel)
  have hf20 := hts (.fieldLink RX0 20 "SqueezedVolume$Directory" "lengths" "LSqueezedVolume$Row;") (by decide +kernel)
  have L6 : ∀ (k : Nat) (j : Nat) (x3 : Int32) (x1 : Int32) (x2 : Int32), (j ≤ n.toNatClampNeg) → (n.toNatClampNeg + 1 ≤ j + k) → (x3 = nI j) → (x1 = (d_spareF fk fl j).1) → (x2 = (d_spareF fk fl j).2) → ∀ (ls : Array Slot), lv_has ls 5 [(0, .ref h0), (1, .int x1), (2, .int x2), (3, .int x3)] → W p l e ({ frames := 1, cells := 0, slots := 0, locals := 21 }) s m ([.ref h0] : List Value).toArray below meth c s.heap [] 0 0 (MQ below (z_Ro (some (.int (d_spare fk fl n)))) ([.ref h0] : List Value).toArray s 0 0 (fun _ => False)) (F0 m 6 ls []) := by
    intro k
    induction k with
    | zero =>
      intro j x3 x1 x2 hj hk ex3 ex1 ex2
      exfalso; omega
    | succ k ih =>
      intro j x3 x1 x2 hj hk ex3 ex1 ex2
      intro ls hl
      refine lv_iload_n hx hb dX0_roomToSpare_6 rfl (lv_at hl 3 rfl) ?_
      refine lv_aload_n hx hb dX0_roomToSpare_7 rfl (lv_at hl 0 rfl) ?_
      refine va_get (D := D) (ci := 0) (v := .int n) (C := RX0) (T := TX0) (N := 5) hx hb hts hin0 hown hK hP 0 rfl rfl 4 (by decide) hf29 (fun _ h9 => h9) rfl dX0_roomToSpare_8 ?_
      refine lv_icmp_ge (tgt := 63) hx hb dX0_roomToSpare_11 (by decide) (fun c_1 => ?_) (fun c_1 => ?_)
      · skip
        refine lv_iload_n hx hb dX0_roomToSpare_63 rfl (lv_at hl 1 rfl) ?_
        refine lv_iconst (v := 2) hx hb dX0_roomToSpare_64 (by decide) ?_
        refine lv_idiv hx hb dX0_roomToSpare_65 (by decide) ?_
        refine lv_iload_n hx hb dX0_roomToSpare_66 rfl (lv_at hl 2 rfl) ?_
        refine va_mmax hx hb (by rw [hml]; exact hl.1.symm) hown hm70 hms_max hmi hmc_max (Nat.le_of_ble_eq_true rfl) (Nat.le_of_ble_eq_true rfl) (Nat.le_of_ble_eq_true rfl) (Nat.le_of_ble_eq_true rfl) dX0_roomToSpare_67 ?_
        exact W.iret (v := if x1 / 2 < x2 then x2 else x1 / 2) hx hb hr (fun t ht hW => ⟨z_ret (by subst ex1 ex2; simp only [d_spare, i_max, z_c_eq hj ex3 c_1]), ht⟩) (fun _ h => nomatch h) dX0_roomToSpare_70
      · skip
        refine lv_aload_n hx hb dX0_roomToSpare_14 rfl (lv_at hl 0 rfl) ?_
        refine va_get (D := D) (ci := 0) (v := .ref a1) (C := RX0) (T := TX0) (N := 5) hx hb hts hin0 hown hK hP 0 rfl rfl 0 (by decide) hf16 (fun _ h9 => h9) rfl dX0_roomToSpare_15 ?_
        refine lv_iload_n hx hb dX0_roomToSpare_18 rfl (lv_at hl 3 rfl) ?_
        refine z_callRi (va_runV (As := [.int x3]) (rest := []) ⟨hx, hb, hml, hown, hts⟩ (c_X2_at l D cI a1 b1 17 fk x3 (by decide)) (cwV 1 hts gX0_roomToSpare_X2_at rfl rfl rfl qd_X2_at ⟨Nat.le_of_ble_eq_true rfl, Nat.le_of_ble_eq_true rfl⟩) ⟨z_Pr_blind, va_recv hK hP (ci := 2) (q0 := 1) rfl rfl, fun U hU hW => ⟨rfl, by rw [hU]; exact hP.sub (ws' := [(a1, .inr (2, [.ref b1])), (b1, .inl (cI, 17, .inl fk))]) [1, 2] rfl, va_K.moved hW.alike hK⟩⟩ rfl rfl hl.1 rfl (lv_room (Nat.le_of_ble_eq_true rfl)) dX0_roomToSpare_19 ⟨Nat.le_of_ble_eq_true rfl, Nat.le_of_ble_eq_true rfl⟩) ?_
        refine lv_if_ne (tgt := 36) hx hb dX0_roomToSpare_22 (by decide) (fun c_2 => ?_) (fun c_2 => ?_)
        · skip
          refine lv_iconst (v := 0) hx hb dX0_roomToSpare_36 (by decide) ?_
          refine lv_istore (lv' := [(4, .int 0), (0, .ref h0), (1, .int x1), (2, .int x2), (3, .int x3)]) hx hb dX0_roomToSpare_37 hl (by decide) rfl (fun ls hl => ?_)
          refine lv_iload_n hx hb dX0_roomToSpare_39 rfl (lv_at hl 3 rfl) ?_
          refine lv_iload hx hb dX0_roomToSpare_40 (lv_at hl 0 rfl) ?_
          refine lv_iload_n hx hb dX0_roomToSpare_42 rfl (lv_at hl 2 rfl) ?_
          refine va_mmin hx hb (by rw [hml]; exact hl.1.symm) hown hm64 hms_min hmi hmc_min (Nat.le_of_ble_eq_true rfl) (Nat.le_of_ble_eq_true rfl) (Nat.le_of_ble_eq_true rfl) (Nat.le_of_ble_eq_true rfl) dX0_roomToSpare_43 ?_
          refine va_mmax hx hb (by rw [hml]; exact hl.1.symm) hown hm70 hms_max hmi hmc_max (Nat.le_of_ble_eq_true rfl) (Nat.le_of_ble_eq_true rfl) (Nat.le_of_ble_eq_true rfl) (Nat.le_of_ble_eq_true rfl) dX0_roomToSpare_46 ?_
          refine lv_istore_n (lv' := [(2, .int (if x2 < if x1 < 0 then x1 else 0 then if x1 < 0 then x1 else 0 else x2)), (4, .int 0), (0, .ref h0), (1, .int x1), (3, .int x3)]) hx hb dX0_roomToSpare_49 rfl hl (by decide) rfl (fun ls hl => ?_)
          refine lv_iload_n hx hb dX0_roomToSpare_50 rfl (lv_at hl 3 rfl) ?_
          refine lv_iload hx hb dX0_roomToSpare_51 (lv_at hl 1 rfl) ?_
          refine va_mmax hx hb (by rw [hml]; exact hl.1.symm) hown hm70 hms_max hmi hmc_max (Nat.le_of_ble_eq_true rfl) (Nat.le_of_ble_eq_true rfl) (Nat.le_of_ble_eq_true rfl) (Nat.le_of_ble_eq_true rfl) dX0_roomToSpare_53 ?_
          refine lv_istore_n (lv' := [(1, .int (if x1 < 0 then 0 else x1)), (2, .int (if x2 < if x1 < 0 then x1 else 0 then if x1 < 0 then x1 else 0 else x2)), (4, .int 0), (0, .ref h0), (3, .int x3)]) hx hb dX0_roomToSpare_56 rfl hl (by decide) rfl (fun ls hl => ?_)
          refine lv_iinc (v := x3 + 1) (lv' := [(3, .int (x3 + 1)), (1, .int (if x1 < 0 then 0 else x1)), (2, .int (if x2 < if x1 < 0 then x1 else 0 then if x1 < 0 then x1 else 0 else x2)), (4, .int 0), (0, .ref h0)]) hx hb dX0_roomToSpare_57 hl (k := 4) rfl (by rfl) (by decide) rfl (fun ls hl => ?_)
          refine lv_goto (tgt := 6) hx hb dX0_roomToSpare_60 (by decide) ?_
          exact ih (j + 1) (x3 + 1) (if x1 < 0 then 0 else x1) (if x2 < if x1 < 0 then x1 else 0 then if x1 < 0 then x1 else 0 else x2) (z_c_g hj ex3 c_1) (by omega) (by rw [ex3, nI_succ]) (by subst ex1 ex2 ex3; simp only [d_spareF, i_max, i_min, if_neg c_2]) (by subst ex1 ex2 ex3; simp only [d_spareF, i_max, i_min, if_neg c_2]) ls (lv_sub hl [4, 1, 2, 0] rfl)
        · skip
          refine lv_aload_n hx hb dX0_roomToSpare_25 rfl (lv_at hl 0 rfl) ?_
          refine va_get (D := D) (ci := 0) (v := .ref a2) (C := RX0) (T := TX0) (N := 5) hx hb hts hin0 hown hK hP 0 rfl rfl 1 (by decide) hf20 (fun _ h9 => h9) rfl dX0_roomToSpare_26 ?_
          refine lv_iload_n hx hb dX0_roomToSpare_29 rfl (lv_at hl 3 rfl) ?_
          refine z_callRi (va_runV (As := [.int x3]) (rest := []) ⟨hx, hb, hml, hown, hts⟩ (c_X2_at l D cI a2 b2 17 fl x3 (by decide)) (cwV 1 hts gX0_roomToSpare_X2_at rfl rfl rfl qd_X2_at ⟨Nat.le_of_ble_eq_true rfl, Nat.le_of_ble_eq_true rfl⟩) ⟨z_Pr_blind, va_recv hK hP (ci := 2) (q0 := 3) rfl rfl, fun U hU hW => ⟨rfl, by rw [hU]; exact hP.sub (ws' := [(a2, .inr (2, [.ref b2])), (b2, .inl (cI, 17, .inl fl))]) [3, 4] rfl, va_K.moved hW.alike hK⟩⟩ rfl rfl hl.1 rfl (lv_room (Nat.le_of_ble_eq_true rfl)) dX0_roomToSpare_30 ⟨Nat.le_of_ble_eq_true rfl, Nat.le_of_ble_eq_true rfl⟩) ?_
          refine lv_goto (tgt := 37) hx hb dX0_roomToSpare_33 (by decide) ?_
          refine lv_istore (lv' := [(4, .int (r_at 17 fl x3)), (0, .ref h0), (1, .int x1), (2, .int x2), (3, .int x3)]) hx hb dX0_roomToSpare_37 hl (by decide) rfl (fun ls hl => ?_)
          refine lv_iload_n hx hb dX0_roomToSpare_39 rfl (lv_at hl 3 rfl) ?_
          refine lv_iload hx hb dX0_roomToSpare_40 (lv_at hl 0 rfl) ?_
          refine lv_iload_n hx hb dX0_roomToSpare_42 rfl (lv_at hl 2 rfl) ?_
          refine va_mmin hx hb (by rw [hml]; exact hl.1.symm) hown hm64 hms_min hmi hmc_min (Nat.le_of_ble_eq_true rfl) (Nat.le_of_ble_eq_true rfl) (Nat.le_of_ble_eq_true rfl) (Nat.le_of_ble_eq_true rfl) dX0_roomToSpare_43 ?_
          refine va_mmax hx hb (by rw [hml]; exact hl.1.symm) hown hm70 hms_max hmi hmc_max (Nat.le_of_ble_eq_true rfl) (Nat.le_of_ble_eq_true rfl) (Nat.le_of_ble_eq_true rfl) (Nat.le_of_ble_eq_true rfl) dX0_roomToSpare_46 ?_
          refine lv_istore_n (lv' := [(2, .int (if x2 < if x1 < r_at 17 fl x3 then x1 else r_at 17 fl x3 then if x1 < r_at 17 fl x3 then x1 else r_at 17 fl x3 else x2)), (4, .int (r_at 17 fl x3)), (0, .ref h0), (1, .int x1), (3, .int x3)]) hx hb dX0_roomToSpare_49 rfl hl (by decide) rfl (fun ls hl => ?_)
          refine lv_iload_n hx hb dX0_roomToSpare_50 rfl (lv_at hl 3 rfl) ?_
          refine lv_iload hx hb dX0_roomToSpare_51 (lv_at hl 1 rfl) ?_
          refine va_mmax hx hb (by rw [hml]; exact hl.1.symm) hown hm70 hms_max hmi hmc_max (Nat.le_of_ble_eq_true rfl) (Nat.le_of_ble_eq_true rfl) (Nat.le_of_ble_eq_true rfl) (Nat.le_of_ble_eq_true rfl) dX0_roomToSpare_53 ?_
          refine lv_istore_n (lv' := [(1, .int (if x1 < r_at 17 fl x3 then r_at 17 fl x3 else x1)), (2, .int (if x2 < if x1 < r_at 17 fl x3 then x1 else r_at 17 fl x3 then if x1 < r_at 17 fl x3 then x1 else r_at 17 fl x3 else x2)), (4, .int (r_at 17 fl x3)), (0, .ref h0), (3, .int x3)]) hx hb dX0_roomToSpare_56 rfl hl (by decide) rfl (fun ls hl => ?_)
          refine lv_iinc (v := x3 + 1) (lv' := [(3, .int (x3 + 1)), (1, .int (if x1 < r_at 17 fl x3 then r_at 17 fl x3 else x1)), (2, .int (if x2 < if x1 < r_at 17 fl x3 then x1 else r_at 17 fl x3 then if x1 < r_at 17 fl x3 then x1 else r_at 17 fl x3 else x2)), (4, .int (r_at 17 fl x3)), (0, .ref h0)]) hx hb dX0_roomToSpare_57 hl (k := 4) rfl (by rfl) (by decide) rfl (fun ls hl => ?_)
          refine lv_goto (tgt := 6) hx hb dX0_roomToSpare_60 (by decide) ?_
          exact ih (j + 1) (x3 + 1) (if x1 < r_at 17 fl x3 then r_at 17 fl x3 else x1) (if x2 < if x1 < r_at 17 fl x3 then x1 else r_at 17 fl x3 then if x1 < r_at 17 fl x3 then x1 else r_at 17 fl x3 else x2) (z_c_g hj ex3 c_1) (by omega) (by rw [ex3, nI_succ]) (by subst ex1 ex2 ex3; simp only [d_spareF, i_max, i_min, if_pos c_2]) (by subst ex1 ex2 ex3; simp only [d_spareF, i_max, i_min, if_pos c_2]) ls (lv_sub hl [4, 1, 2, 0] rfl)
  refine lv_iconst (v := 0) hx hb dX0_roomToSpare_0 (by decide) ?_
  refine lv_istore_n (lv' := [(1, .int 0), (0, .ref h0)]) hx hb dX0_roomToSpare_1 rfl hl (by decide) rfl (fun ls hl => ?_)
  refine lv_iconst (v := 0) hx hb dX0_roomToSpare_2 (by decide) ?_
  refine lv_istore_n (lv' := [(2, .int 0), (1, .int 0), (0, .ref h0)]) hx hb dX0_roomToSpare_3 rfl hl (by decide) rfl (fun ls hl => ?_)
  refine lv_iconst (v := 0) hx hb dX0_roomToSpare_4 (by decide) ?_
  refine lv_istore_n (lv' := [(3, .int 0), (2, .int 0), (1, .int 0), (0, .ref h0)]) hx hb dX0_roomToSpare_5 rfl hl (by decide) rfl (fun ls hl => ?_)
  exact L6 (n.toNatClampNeg + 1) 0 0 0 0 (Nat.zero_le _) (by omega) nI_0.symm rfl rfl ls (lv_sub hl [3, 2, 1, 0] rfl)
