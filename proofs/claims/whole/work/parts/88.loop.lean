theorem z_and15 (x : Int32) : ∃ j : Nat, j < 16 ∧ x &&& 15 = nI j := by
  obtain ⟨j, h1, h2⟩ := pk_andE x (m := 15) 4 (by decide)
  exact ⟨j, by omega, h2⟩
theorem z_head {k L : Nat} (hk : k ≤ 2048) (hL : L ≤ 2048) (h : ¬ nI L - 4 < nI k) : k + 4 ≤ L := by
  rw [Int32.lt_iff_toInt_lt, nI_toInt (by omega)] at h
  have h1 : (nI L - 4).toInt = (L : Int) - 4 := by
    rw [Int32.toInt_sub, nI_toInt (by omega)]
    have h4 : (4 : Int32).toInt = 4 := rfl
    rw [h4]
    apply Int.bmod_eq_of_le <;> omega
  rw [h1] at h
  omega
theorem z_in {k L d : Nat} (h : k + d < L) (hL : L ≤ 2048) {x y : Int32} (e : x = nI k) (ey : y = nI d) : vp_in (x + y) L := by
  subst e ey
  rw [nI_add]
  exact vp_in_nI h (by omega)
set_option maxHeartbeats 4000000 in
set_option maxRecDepth 100000 in
/-- THE LAW'S LOOP -/
theorem law_loop {p : Program} {e : Env} {s : State} {m : MethodId} {below : List Frame} {meth : Method} {c : Code} (l : Launch) (hfl : l.stackTraces = false) {b L : Nat} {xs : Nat → Int32} (hL : L ≤ 2048) (C0 : lw_At p s m meth c b L xs) {D : va_G} {cI cJ : ClassId} (hKL : va_K D vwCl [(cI, .int), (cJ, .long)] s) (hTh : z_Th (fun q : Nat => s.heap.size ≤ q) s s.heap) (hNc : z_Nc s) {h0 pw ct cta ih0 ia1 ia2 ia3 ia4 ib1 ib2 ib3 ib4 rh0 ra1 ra2 ra3 ra4 rb1 rb2 rb3 rb4 ot m0 g1 g2 g3 g4 g5 g6 : Nat} :
    ∀ (n k : Nat) (x4 : Int32) (kc ks : Nat), L + 1 ≤ k + n → k ≤ L → x4 = nI k → kc + 4 * n ≤ 651312 → ks + 24 * n ≤ 7142168 → ∀ (w : zP) (ca : zA) (dd ee : zD) (sq : Bool) (le code : Int32) (qq : zQ) (mo : Bool) (gr mv fr sh cp ra rl : Int32) (ints ow nx ki na ha : zA) (ff : Nat → Int64) (H : Heap) (locs : List Loc) (ls : Array Slot), va_P D vwCl [(h0, .inr (3, [.ref pw, .ref ct, .ref ih0, .ref rh0, .int (zb sq), .int le])), (pw, .inr (1, [.int (zb w.1), .int w.2.1, .int w.2.2])), (ct, .inr (2, [.ref cta])), (cta, .inl (cI, 48, .inl ca)), (ih0, .inr (0, [.ref ia1, .ref ia2, .ref ia3, .ref ia4, .int dd.2.2.2.2])), (ia1, .inr (2, [.ref ib1])), (ib1, .inl (cI, 17, .inl dd.1)), (ia2, .inr (2, [.ref ib2])), (ib2, .inl (cI, 17, .inl dd.2.1)), (ia3, .inr (2, [.ref ib3])), (ib3, .inl (cI, 17, .inl dd.2.2.1)), (ia4, .inr (2, [.ref ib4])), (ib4, .inl (cI, 17, .inl dd.2.2.2.1)), (rh0, .inr (0, [.ref ra1, .ref ra2, .ref ra3, .ref ra4, .int ee.2.2.2.2])), (ra1, .inr (2, [.ref rb1])), (rb1, .inl (cI, 17, .inl ee.1)), (ra2, .inr (2, [.ref rb2])), (rb2, .inl (cI, 17, .inl ee.2.1)), (ra3, .inr (2, [.ref rb3])), (rb3, .inl (cI, 17, .inl ee.2.2.1)), (ra4, .inr (2, [.ref rb4])), (rb4, .inl (cI, 17, .inl ee.2.2.2.1)), (ot, .inl (cJ, 1, .inr (.inl ff))), (m0, .inr (4, [.int code, .int (zb qq.1), .int qq.2.1, .int qq.2.2.1, .ref g1, .ref g2, .ref g3, .ref g4, .ref g5, .ref g6, .int (zb qq.2.2.2), .int (zb false), .int (zb mo), .int mv, .int fr, .int sh, .int gr, .int cp, .int ra, .int rl])), (g1, .inl (cI, 48, .inl ints)), (g2, .inl (cI, 48, .inl ow)), (g3, .inl (cI, 48, .inl nx)), (g4, .inl (cI, 17, .inl ki)), (g5, .inl (cI, 17, .inl na)), (g6, .inl (cI, 17, .inl ha))] H → va_D (fun q : Nat => s.heap.size ≤ q) [(h0, .inr (3, [.ref pw, .ref ct, .ref ih0, .ref rh0, .int (zb sq), .int le])), (pw, .inr (1, [.int (zb w.1), .int w.2.1, .int w.2.2])), (ct, .inr (2, [.ref cta])), (cta, .inl (cI, 48, .inl ca)), (ih0, .inr (0, [.ref ia1, .ref ia2, .ref ia3, .ref ia4, .int dd.2.2.2.2])), (ia1, .inr (2, [.ref ib1])), (ib1, .inl (cI, 17, .inl dd.1)), (ia2, .inr (2, [.ref ib2])), (ib2, .inl (cI, 17, .inl dd.2.1)), (ia3, .inr (2, [.ref ib3])), (ib3, .inl (cI, 17, .inl dd.2.2.1)), (ia4, .inr (2, [.ref ib4])), (ib4, .inl (cI, 17, .inl dd.2.2.2.1)), (rh0, .inr (0, [.ref ra1, .ref ra2, .ref ra3, .ref ra4, .int ee.2.2.2.2])), (ra1, .inr (2, [.ref rb1])), (rb1, .inl (cI, 17, .inl ee.1)), (ra2, .inr (2, [.ref rb2])), (rb2, .inl (cI, 17, .inl ee.2.1)), (ra3, .inr (2, [.ref rb3])), (rb3, .inl (cI, 17, .inl ee.2.2.1)), (ra4, .inr (2, [.ref rb4])), (rb4, .inl (cI, 17, .inl ee.2.2.2.1)), (ot, .inl (cJ, 1, .inr (.inl ff))), (m0, .inr (4, [.int code, .int (zb qq.1), .int qq.2.1, .int qq.2.2.1, .ref g1, .ref g2, .ref g3, .ref g4, .ref g5, .ref g6, .int (zb qq.2.2.2), .int (zb false), .int (zb mo), .int mv, .int fr, .int sh, .int gr, .int cp, .int ra, .int rl])), (g1, .inl (cI, 48, .inl ints)), (g2, .inl (cI, 48, .inl ow)), (g3, .inl (cI, 48, .inl nx)), (g4, .inl (cI, 17, .inl ki)), (g5, .inl (cI, 17, .inl na)), (g6, .inl (cI, 17, .inl ha))] → va_S (fun q : Nat => s.heap.size ≤ q) s.heap H locs → t_R w ca dd sq le qq mo gr ints ow ki na ha mv fr sh → lv_has ls 7 [(0, .ref b), (1, .ref h0), (2, .ref m0), (3, .ref ot), (4, .int x4)] → W p l e room_1 s m #[Value.ref b] below meth c H locs kc ks (lw_Z below #[Value.ref b] s) (F0 m 23 ls [])
  | 0, k, x4, kc, ks, h1, h2, _, _, _ => absurd h1 (by omega)
  | n + 1, k, x4, kc, ks, h1, h2, ex, hkc, hks => by
    intro w ca dd ee sq le code qq mo gr mv fr sh cp ra rl ints ow nx ki na ha ff H locs ls hP hD hS hR hl
    obtain ⟨hx, hb, hr, hml, hown0, hts0, hX, hbl, hlocks, hgv⟩ := id C0
    have hbA : ¬ (fun q : Nat => s.heap.size ≤ q) b := Nat.not_le.mpr hbl
    refine lv_iload hx hb dL_law_23 (lv_at hl 4 rfl) ?_
    refine lv_aload_n hx hb dL_law_25 rfl (lv_at hl 0 rfl) ?_
    refine va_slen hx hb hX hbl hbA hS dL_law_26 ?_
    refine lv_iconst (v := 4) hx hb dL_law_27 (by decide) ?_
    refine lv_isub hx hb dL_law_28 ?_
    refine lv_icmp_gt (tgt := 976) hx hb dL_law_29 (by decide) (fun c1 => ?_) (fun c1 => ?_)
    · refine lv_iconst (v := 1) hx hb dL_law_976 (by decide) ?_
      refine va_forget (fun q hq => hS.2.2 q hq) ?_
      refine W.widen (k := 651312) (n := 7142168) (by omega) (by omega) ?_
      exact lw_ret hx hb hr hlocks dL_law_977
    · have hk4 : k + 4 ≤ L := z_head (by omega) hL (by rw [ex] at c1; exact c1)
      have hin : vp_in (x4 + 1) L ∧ vp_in (x4 + 2) L ∧ vp_in (x4 + 3) L := ⟨z_in (d := 1) (by omega) hL ex rfl, z_in (d := 2) (by omega) hL ex rfl, z_in (d := 3) (by omega) hL ex rfl⟩
      have hi0 : vp_in x4 L := by rw [ex]; exact vp_in_nI (by omega) (by omega)
      have hnx : lw_nx p l e s m below meth c b D cI cJ h0 pw ct cta ih0 ia1 ia2 ia3 ia4 ib1 ib2 ib3 ib4 rh0 ra1 ra2 ra3 ra4 rb1 rb2 rb3 rb4 ot m0 g1 g2 g3 g4 g5 g6 x4 kc ks := by
        intro w ca dd ee sq le code qq mo gr mv fr sh cp ra rl ints ow nx ki na ha ff H locs ls hP hD hS hR hl
        refine lv_iinc (v := nI (k + 4)) (lv' := [(4, .int (nI (k + 4))), (0, .ref b), (1, .ref h0), (2, .ref m0), (3, .ref ot)]) hx hb dL_law_970 hl (k := 4) rfl (by rw [ex]; exact nI_add k 4) (by decide) rfl (fun ls hl => ?_)
        refine lv_goto (tgt := 23) hx hb dL_law_973 (by decide) ?_
        exact law_loop l hfl hL C0 hKL hTh hNc n (k + 4) (nI (k + 4)) (kc + 4) (ks + 24) (by omega) hk4 rfl (by omega) (by omega) w ca dd ee sq le code qq mo gr mv fr sh cp ra rl ints ow nx ki na ha ff H locs ls hP hD hS hR (lv_sub hl [1, 2, 3, 4, 0] rfl)
      refine lv_aload_n hx hb dL_law_32 rfl (lv_at hl 0 rfl) ?_
      refine lv_iload hx hb dL_law_33 (lv_at hl 4 rfl) ?_
      refine va_sld hx hb hX hbl hbA hS hi0 dL_law_35 ?_
      refine lv_bipush (v := 15) hx hb dL_law_36 (by decide) ?_
      refine lv_iand hx hb dL_law_38 ?_
      obtain ⟨j, hj, ej⟩ := z_and15 (xs x4.toNatClampNeg)
      refine W.eq (g2 := F0 m 39 ls [.int (nI j)]) (by rw [ej]) ?_
      have hkc4 : kc + 4 ≤ 651312 := by omega
      have hks4 : ks + 24 ≤ 7142168 := by omega
      match j, hj with
      | 0, _ => exact lv_tableIn (off := 77) (tgt := 116) hx hb dL_law_39 (by decide) (by decide) rfl (by decide) (lw_op_enter l hfl C0 hKL hTh hNc hin hkc4 hks4 hnx hP hD hS hR hl)
      | 1, _ => exact lv_tableIn (off := 145) (tgt := 184) hx hb dL_law_39 (by decide) (by decide) rfl (by decide) (lw_op_put l hfl C0 hKL hTh hNc hin hkc4 hks4 hnx hP hD hS hR hl)
      | 2, _ => exact lv_tableIn (off := 225) (tgt := 264) hx hb dL_law_39 (by decide) (by decide) rfl (by decide) (lw_op_close l hfl C0 hKL hTh hNc hin hkc4 hks4 hnx hP hD hS hR hl)
      | 3, _ => exact lv_tableIn (off := 293) (tgt := 332) hx hb dL_law_39 (by decide) (by decide) rfl (by decide) (lw_op_purge l hfl C0 hKL hTh hNc hin hkc4 hks4 hnx hP hD hS hR hl)
      | 4, _ => exact lv_tableIn (off := 349) (tgt := 388) hx hb dL_law_39 (by decide) (by decide) rfl (by decide) (lw_op_delete l hfl C0 hKL hTh hNc hin hkc4 hks4 hnx hP hD hS hR hl)
      | 5, _ => exact lv_tableIn (off := 405) (tgt := 444) hx hb dL_law_39 (by decide) (by decide) rfl (by decide) (lw_op_rename l hfl C0 hKL hTh hNc hin hkc4 hks4 hnx hP hD hS hR hl)
      | 6, _ => exact lv_tableIn (off := 473) (tgt := 512) hx hb dL_law_39 (by decide) (by decide) rfl (by decide) (lw_op_read l hfl C0 hKL hTh hNc hin hkc4 hks4 hnx hP hD hS hR hl)
      | 7, _ => exact lv_tableIn (off := 541) (tgt := 580) hx hb dL_law_39 (by decide) (by decide) rfl (by decide) (lw_op_squeeze l hfl C0 hKL hTh hNc hin hkc4 hks4 hnx hP hD hS hR hl)
      | 8, _ => exact lv_tableIn (off := 585) (tgt := 624) hx hb dL_law_39 (by decide) (by decide) rfl (by decide) (lw_op_mount l hfl C0 hKL hTh hNc hin hkc4 hks4 hnx hP hD hS hR hl)
      | 9, _ => exact lv_tableIn (off := 629) (tgt := 668) hx hb dL_law_39 (by decide) (by decide) rfl (by decide) (lw_op_cutAfter l hfl C0 hKL hTh hNc hin hkc4 hks4 hnx hP hD hS hR hl)
      | 10, _ => exact lv_tableIn (off := 665) (tgt := 704) hx hb dL_law_39 (by decide) (by decide) rfl (by decide) (lw_op_entry l hfl C0 hKL hTh hNc hin hkc4 hks4 hnx hP hD hS hR hl)
      | 11, _ => exact lv_tableIn (off := 733) (tgt := 772) hx hb dL_law_39 (by decide) (by decide) rfl (by decide) (lw_op_entries l hfl C0 hKL hTh hNc hin hkc4 hks4 hnx hP hD hS hR hl)
      | 12, _ => exact lv_tableIn (off := 777) (tgt := 816) hx hb dL_law_39 (by decide) (by decide) rfl (by decide) (lw_op_free l hfl C0 hKL hTh hNc hin hkc4 hks4 hnx hP hD hS hR hl)
      | 13, _ => exact lv_tableIn (off := 849) (tgt := 888) hx hb dL_law_39 (by decide) (by decide) rfl (by decide) (lw_op_handle l hfl C0 hKL hTh hNc hin hkc4 hks4 hnx hP hD hS hR hl)
      | 14, _ => exact lv_tableIn (off := 905) (tgt := 944) hx hb dL_law_39 (by decide) (by decide) rfl (by decide) (lw_op_writes l hfl C0 hKL hTh hNc hin hkc4 hks4 hnx hP hD hS hR hl)
      | 15, _ => exact lv_tableIn (off := 918) (tgt := 957) hx hb dL_law_39 (by decide) (by decide) rfl (by decide) (lw_op_isOn l hfl C0 hKL hTh hNc hin hkc4 hks4 hnx hP hD hS hR hl)
      | j + 16, h => exact absurd h (by omega)
