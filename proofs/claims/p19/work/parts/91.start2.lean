set_option maxHeartbeats 4000000 in
set_option maxRecDepth 100000 in
theorem whole_start {p : Program} {e : Env} {s : State} {m : MethodId} {below : List Frame} {meth : Method} {c : Code} (l : Launch) (hflags : l.flags = flags0) {b L : Nat} {xs : Nat → Int32} (hL : L ≤ 260) (C0 : lw_At p s m meth c b L xs) : W p l e room_1 s m #[Value.ref b] below meth c s.heap [] 0 0 (lw_Z below #[Value.ref b] s) (entryFrame m ([Value.ref b] : List Value).toArray 9) := by
  have hfl : l.stackTraces = false := by rw [Launch.stackTraces, hflags]; decide +kernel
  obtain ⟨hx, hb, hr, hml, hown0, hts0, hX, hbl, hlocks, hgv⟩ := id C0
  have hown : s.vm.findClass RL = some m.cls := hown0
  have hts : ∀ w ∈ wsL_law, w.before #[Value.ref b] s = true := fun w h => hts0 w (wsL_law_in w h)
  have hA : ∀ q : Nat, s.heap.size ≤ q → (fun q : Nat => s.heap.size ≤ q) q := fun _ h => h
  have hbA : ¬ (fun q : Nat => s.heap.size ≤ q) b := Nat.not_le.mpr hbl
  obtain ⟨c0, iS0, hKn0⟩ := u_known (C := RX0) (T := TX0) (N := 5) (n := 5) hts inlX0 (hts (.instantiable RX0 5) (by decide +kernel))
  obtain ⟨c1, iS1, hKn1⟩ := u_known (C := RX1) (T := TX1) (N := 3) (n := 3) hts inlX1 (hts (.instantiable RX1 3) (by decide +kernel))
  obtain ⟨c2, iS2, hKn2⟩ := u_known (C := RX2) (T := TX2) (N := 1) (n := 1) hts inlX2 (hts (.instantiable RX2 1) (by decide +kernel))
  obtain ⟨c3, iS3, hKn3⟩ := u_known (C := RX3) (T := TX3) (N := 6) (n := 6) hts inlX3 (hts (.instantiable RX3 6) (by decide +kernel))
  obtain ⟨D, hKc⟩ : ∃ D : va_G, ∀ (k : Nat) (q : vw_C), vwCl[k]? = some q → u_Kn s q.1 q.2.1 q.2.2 (D.1 k) (D.2 k) := by
    refine ⟨(fun k => if k = 0 then c0 else if k = 1 then c1 else if k = 2 then c2 else c3, fun k => if k = 0 then iS0 else if k = 1 then iS1 else if k = 2 then iS2 else iS3), ?_⟩
    intro k q hq
    match k, hq with
    | 0, hq => cases hq; exact hKn0
    | 1, hq => cases hq; exact hKn1
    | 2, hq => cases hq; exact hKn2
    | 3, hq => cases hq; exact hKn3
    | k + 4, hq => simp [vwCl] at hq
  obtain ⟨cI, hI1, hI2⟩ := z_arrK (Or.inl rfl) (hts (.arrayClass .int) (by decide +kernel))
  have hK : va_K D vwCl [(cI, .int)] s := ⟨hKc, fun k q h => by
    match k, h with
    | 0, h => cases h; exact ⟨hI1, hI2⟩
    | k + 1, h => simp at h⟩
  have hcur : s.vm.findClass RX3 = some c3 := hKn3.2.1
  have hTh := z_Th_of hgv hts0 hcur
  have hNc := z_Nc_of hgv
  have hS : va_S (fun q : Nat => s.heap.size ≤ q) s.heap s.heap [] := va_S.rf
  have hP : va_P D vwCl [] s.heap := fun k q h => by simp at h
  have hD : va_D (fun q : Nat => s.heap.size ≤ q) [] := ⟨fun i j p q h => by simp at h, fun k q h => by simp at h⟩
  have hl := lv_entry ([.ref b]) (n := 9) (Nat.le_of_ble_eq_true rfl)
  rw [lg_entry_eq]
  generalize (lg_sl ([.ref b]) ++ List.replicate (9 - (lg_sl ([.ref b])).length) Slot.unset).toArray = ls at hl ⊢
  have hl : lv_has ls 9 [(0, .ref b)] := hl
  refine z_start hP hS (fun H locs hP hS => ?_)
  refine va_new (ci := 3) (fs := [.null, .null, .null, .null, .int (zb false), .int 0]) (C := RX3) (T := TX3) (N := 6) hx hb hts inlX3 tyX3 tyX3_ok hown (hts (.classLink RL 8 RX3) (by decide +kernel)) (hts (.instantiable RX3 6) (by decide +kernel)) (hts (.initialized RX3) (by decide +kernel)) hK hP hD hS hA rfl (fun j hj => by match j, hj with | 0, _ => rfl | 1, _ => rfl | 2, _ => rfl | 3, _ => rfl | 4, _ => rfl | 5, _ => rfl | j + 6, h => exact absurd h (by omega)) (Nat.le_of_ble_eq_true rfl) (Nat.le_of_ble_eq_true rfl) dL_law_0 (fun b_1 H hP hD hS => ?_)
  have hP : va_P D vwCl [(b_1, .inr (3, [.null, .null, .null, .null, .int (zb false), .int 0]))] H := hP
  have hD : va_D (fun q : Nat => s.heap.size ≤ q) [(b_1, .inr (3, [.null, .null, .null, .null, .int (zb false), .int 0]))] := hD
  refine lv_dup hx hb dL_law_3 rfl ?_
  have hPc : va_P D vwCl [(b_1, .inr (3, [.null, .null, .null, .null, .int (zb false), .int 0]))] H := hP.sub [0] rfl
  have hDc : va_D (fun q : Nat => s.heap.size ≤ q) [(b_1, .inr (3, [.null, .null, .null, .null, .int (zb false), .int 0]))] := hD.sub [0] (by decide) rfl
  refine z_callN (wr := []) [0] [] (va_runI (As := []) (rest := [.ref b_1]) ⟨hx, hb, hml, hown, hts⟩ (c_X3_init l D cI b_1 H.size) (cwI 0 hts gL_law_X3_init rfl rfl rfl (hts (.initialized RX3) (by decide +kernel)) (hts (.methodLink RL 120 yX3_init) (by decide +kernel)) (hts (.instanceMethod yX3_init) (by decide +kernel)) rfl qd_X3_init ⟨Nat.le_of_ble_eq_true rfl, Nat.le_of_ble_eq_true rfl⟩) ⟨z_Pw_blind, fun U hU hW => ⟨rfl, by rw [hU], by rw [hU]; exact hPc, va_K.moved hW.alike hK, hDc.weaken (fun _ _ _ _ => trivial)⟩⟩ rfl rfl hl.1 rfl (lv_room (Nat.le_of_ble_eq_true rfl)) dL_law_4 ⟨Nat.le_of_ble_eq_true rfl, Nat.le_of_ble_eq_true rfl⟩) hP hD hS hA rfl rfl (by decide) (by decide) (fun u_23 H locs hP hD hS => ?_)
  obtain ⟨b_2, b_3, b_4, b_5, b_6, b_7, b_8, b_9, b_10, b_11, b_12, b_13, b_14, b_15, b_16, b_17, b_18, b_19, b_20, b_21, b_22⟩ := u_23
  have hP : va_P D vwCl [(b_1, .inr (3, [.ref b_2, .ref b_3, .ref b_5, .ref b_14, .int (zb false), .int (-1)])), (b_2, .inr (1, [.int (zb pw_new.1), .int pw_new.2.1, .int pw_new.2.2])), (b_3, .inr (2, [.ref b_4])), (b_4, .inl (cI, 48, .inl (fun _ => 0))), (b_5, .inr (0, [.ref b_6, .ref b_8, .ref b_10, .ref b_12, .int ((d_addE d_new 48).2.2.2.2)])), (b_6, .inr (2, [.ref b_7])), (b_7, .inl (cI, 17, .inl ((d_addE d_new 48).1))), (b_8, .inr (2, [.ref b_9])), (b_9, .inl (cI, 17, .inl ((d_addE d_new 48).2.1))), (b_10, .inr (2, [.ref b_11])), (b_11, .inl (cI, 17, .inl ((d_addE d_new 48).2.2.1))), (b_12, .inr (2, [.ref b_13])), (b_13, .inl (cI, 17, .inl ((d_addE d_new 48).2.2.2.1))), (b_14, .inr (0, [.ref b_15, .ref b_17, .ref b_19, .ref b_21, .int d_new.2.2.2.2])), (b_15, .inr (2, [.ref b_16])), (b_16, .inl (cI, 17, .inl d_new.1)), (b_17, .inr (2, [.ref b_18])), (b_18, .inl (cI, 17, .inl d_new.2.1)), (b_19, .inr (2, [.ref b_20])), (b_20, .inl (cI, 17, .inl d_new.2.2.1)), (b_21, .inr (2, [.ref b_22])), (b_22, .inl (cI, 17, .inl d_new.2.2.2.1))] H := hP
  have hD : va_D (fun q : Nat => s.heap.size ≤ q) [(b_1, .inr (3, [.ref b_2, .ref b_3, .ref b_5, .ref b_14, .int (zb false), .int (-1)])), (b_2, .inr (1, [.int (zb pw_new.1), .int pw_new.2.1, .int pw_new.2.2])), (b_3, .inr (2, [.ref b_4])), (b_4, .inl (cI, 48, .inl (fun _ => 0))), (b_5, .inr (0, [.ref b_6, .ref b_8, .ref b_10, .ref b_12, .int ((d_addE d_new 48).2.2.2.2)])), (b_6, .inr (2, [.ref b_7])), (b_7, .inl (cI, 17, .inl ((d_addE d_new 48).1))), (b_8, .inr (2, [.ref b_9])), (b_9, .inl (cI, 17, .inl ((d_addE d_new 48).2.1))), (b_10, .inr (2, [.ref b_11])), (b_11, .inl (cI, 17, .inl ((d_addE d_new 48).2.2.1))), (b_12, .inr (2, [.ref b_13])), (b_13, .inl (cI, 17, .inl ((d_addE d_new 48).2.2.2.1))), (b_14, .inr (0, [.ref b_15, .ref b_17, .ref b_19, .ref b_21, .int d_new.2.2.2.2])), (b_15, .inr (2, [.ref b_16])), (b_16, .inl (cI, 17, .inl d_new.1)), (b_17, .inr (2, [.ref b_18])), (b_18, .inl (cI, 17, .inl d_new.2.1)), (b_19, .inr (2, [.ref b_20])), (b_20, .inl (cI, 17, .inl d_new.2.2.1)), (b_21, .inr (2, [.ref b_22])), (b_22, .inl (cI, 17, .inl d_new.2.2.2.1))] := hD
  refine lv_astore_n (lv' := [(1, .ref b_1), (0, .ref b)]) hx hb dL_law_7 rfl hl (by decide) rfl (fun ls hl => ?_)
  refine lv_bipush (v := 24) hx hb dL_law_8 (by decide) ?_
  refine z_newa (N := 24) hx hb (hts (.arrayClass .int) (by decide +kernel)) hK hP hD hS hA (by decide) (by decide) (by decide) (Nat.le_of_ble_eq_true rfl) (Nat.le_of_ble_eq_true rfl) dL_law_10 (fun mA H hP hD hS => ?_)
  have hP : va_P D vwCl [(b_1, .inr (3, [.ref b_2, .ref b_3, .ref b_5, .ref b_14, .int (zb false), .int (-1)])), (b_2, .inr (1, [.int (zb pw_new.1), .int pw_new.2.1, .int pw_new.2.2])), (b_3, .inr (2, [.ref b_4])), (b_4, .inl (cI, 48, .inl (fun _ => 0))), (b_5, .inr (0, [.ref b_6, .ref b_8, .ref b_10, .ref b_12, .int ((d_addE d_new 48).2.2.2.2)])), (b_6, .inr (2, [.ref b_7])), (b_7, .inl (cI, 17, .inl ((d_addE d_new 48).1))), (b_8, .inr (2, [.ref b_9])), (b_9, .inl (cI, 17, .inl ((d_addE d_new 48).2.1))), (b_10, .inr (2, [.ref b_11])), (b_11, .inl (cI, 17, .inl ((d_addE d_new 48).2.2.1))), (b_12, .inr (2, [.ref b_13])), (b_13, .inl (cI, 17, .inl ((d_addE d_new 48).2.2.2.1))), (b_14, .inr (0, [.ref b_15, .ref b_17, .ref b_19, .ref b_21, .int d_new.2.2.2.2])), (b_15, .inr (2, [.ref b_16])), (b_16, .inl (cI, 17, .inl d_new.1)), (b_17, .inr (2, [.ref b_18])), (b_18, .inl (cI, 17, .inl d_new.2.1)), (b_19, .inr (2, [.ref b_20])), (b_20, .inl (cI, 17, .inl d_new.2.2.1)), (b_21, .inr (2, [.ref b_22])), (b_22, .inl (cI, 17, .inl d_new.2.2.2.1)), (mA, .inl (cI, 24, .inl (fun _ => 0)))] H := hP
  have hD : va_D (fun q : Nat => s.heap.size ≤ q) [(b_1, .inr (3, [.ref b_2, .ref b_3, .ref b_5, .ref b_14, .int (zb false), .int (-1)])), (b_2, .inr (1, [.int (zb pw_new.1), .int pw_new.2.1, .int pw_new.2.2])), (b_3, .inr (2, [.ref b_4])), (b_4, .inl (cI, 48, .inl (fun _ => 0))), (b_5, .inr (0, [.ref b_6, .ref b_8, .ref b_10, .ref b_12, .int ((d_addE d_new 48).2.2.2.2)])), (b_6, .inr (2, [.ref b_7])), (b_7, .inl (cI, 17, .inl ((d_addE d_new 48).1))), (b_8, .inr (2, [.ref b_9])), (b_9, .inl (cI, 17, .inl ((d_addE d_new 48).2.1))), (b_10, .inr (2, [.ref b_11])), (b_11, .inl (cI, 17, .inl ((d_addE d_new 48).2.2.1))), (b_12, .inr (2, [.ref b_13])), (b_13, .inl (cI, 17, .inl ((d_addE d_new 48).2.2.2.1))), (b_14, .inr (0, [.ref b_15, .ref b_17, .ref b_19, .ref b_21, .int d_new.2.2.2.2])), (b_15, .inr (2, [.ref b_16])), (b_16, .inl (cI, 17, .inl d_new.1)), (b_17, .inr (2, [.ref b_18])), (b_18, .inl (cI, 17, .inl d_new.2.1)), (b_19, .inr (2, [.ref b_20])), (b_20, .inl (cI, 17, .inl d_new.2.2.1)), (b_21, .inr (2, [.ref b_22])), (b_22, .inl (cI, 17, .inl d_new.2.2.2.1)), (mA, .inl (cI, 24, .inl (fun _ => 0)))] := hD
  refine lv_astore_n (lv' := [(2, .ref mA), (1, .ref b_1), (0, .ref b)]) hx hb dL_law_12 rfl hl (by decide) rfl (fun ls hl => ?_)
  refine lv_iconst (v := 0) hx hb dL_law_13 (by decide) ?_
  refine lv_istore_n (lv' := [(3, .int 0), (2, .ref mA), (1, .ref b_1), (0, .ref b)]) hx hb dL_law_14 rfl hl (by decide) rfl (fun ls hl => ?_)
  refine W.widen (k := 40) (n := 500) (Nat.le_of_ble_eq_true rfl) (Nat.le_of_ble_eq_true rfl) ?_
  exact law_loop l hfl hL C0 hK hTh hNc (L + 2) 0 0 40 500 (by omega) (Nat.zero_le L) nI_0.symm (by omega) (by omega) pw_new (fun _ => 0) (d_addE d_new 48) d_new false (-1) (fun _ => 0) H locs ls (hP.sub [0, 1, 2, 3, 4, 5, 6, 7, 8, 9, 10, 11, 12, 13, 14, 15, 16, 17, 18, 19, 20, 21, 22] rfl) (hD.sub [0, 1, 2, 3, 4, 5, 6, 7, 8, 9, 10, 11, 12, 13, 14, 15, 16, 17, 18, 19, 20, 21, 22] (by decide) rfl) hS s_new (lv_sub hl [3, 2, 1, 0] rfl)
