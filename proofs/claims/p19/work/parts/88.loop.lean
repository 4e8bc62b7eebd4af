set_option maxHeartbeats 4000000 in
set_option maxRecDepth 100000 in
/-- THE LAW'S LOOP -/
theorem law_loop {p : Program} {e : Env} {s : State} {m : MethodId} {below : List Frame} {meth : Method} {c : Code} (l : Launch) (hfl : l.stackTraces = false) {b L : Nat} {xs : Nat → Int32} (hL : L ≤ 260) (C0 : lw_At p s m meth c b L xs) {D : va_G} {cI : ClassId} (hK : va_K D vwCl [(cI, .int)] s) (hTh : z_Th (fun q : Nat => s.heap.size ≤ q) s s.heap) (hNc : z_Nc s) {h0 pw ct cta ih0 ia1 ia2 ia3 ia4 ib1 ib2 ib3 ib4 rh0 ra1 ra2 ra3 ra4 rb1 rb2 rb3 rb4 mA : Nat} :
    ∀ (n k : Nat) (x3 : Int32) (kc ks : Nat), L + 2 ≤ k + n → k ≤ L → x3 = nI k → kc + 1010 * n ≤ 669187 → ks + 6020 * n ≤ 7093908 → ∀ (w : zP) (ca : zA) (dd ee : zD) (sq : Bool) (le : Int32) (f : zA) (H : Heap) (locs : List Loc) (ls : Array Slot), va_P D vwCl [(h0, .inr (3, [.ref pw, .ref ct, .ref ih0, .ref rh0, .int (zb sq), .int le])), (pw, .inr (1, [.int (zb w.1), .int w.2.1, .int w.2.2])), (ct, .inr (2, [.ref cta])), (cta, .inl (cI, 48, .inl ca)), (ih0, .inr (0, [.ref ia1, .ref ia2, .ref ia3, .ref ia4, .int dd.2.2.2.2])), (ia1, .inr (2, [.ref ib1])), (ib1, .inl (cI, 17, .inl dd.1)), (ia2, .inr (2, [.ref ib2])), (ib2, .inl (cI, 17, .inl dd.2.1)), (ia3, .inr (2, [.ref ib3])), (ib3, .inl (cI, 17, .inl dd.2.2.1)), (ia4, .inr (2, [.ref ib4])), (ib4, .inl (cI, 17, .inl dd.2.2.2.1)), (rh0, .inr (0, [.ref ra1, .ref ra2, .ref ra3, .ref ra4, .int ee.2.2.2.2])), (ra1, .inr (2, [.ref rb1])), (rb1, .inl (cI, 17, .inl ee.1)), (ra2, .inr (2, [.ref rb2])), (rb2, .inl (cI, 17, .inl ee.2.1)), (ra3, .inr (2, [.ref rb3])), (rb3, .inl (cI, 17, .inl ee.2.2.1)), (ra4, .inr (2, [.ref rb4])), (rb4, .inl (cI, 17, .inl ee.2.2.2.1)), (mA, .inl (cI, 24, .inl f))] H → va_D (fun q : Nat => s.heap.size ≤ q) [(h0, .inr (3, [.ref pw, .ref ct, .ref ih0, .ref rh0, .int (zb sq), .int le])), (pw, .inr (1, [.int (zb w.1), .int w.2.1, .int w.2.2])), (ct, .inr (2, [.ref cta])), (cta, .inl (cI, 48, .inl ca)), (ih0, .inr (0, [.ref ia1, .ref ia2, .ref ia3, .ref ia4, .int dd.2.2.2.2])), (ia1, .inr (2, [.ref ib1])), (ib1, .inl (cI, 17, .inl dd.1)), (ia2, .inr (2, [.ref ib2])), (ib2, .inl (cI, 17, .inl dd.2.1)), (ia3, .inr (2, [.ref ib3])), (ib3, .inl (cI, 17, .inl dd.2.2.1)), (ia4, .inr (2, [.ref ib4])), (ib4, .inl (cI, 17, .inl dd.2.2.2.1)), (rh0, .inr (0, [.ref ra1, .ref ra2, .ref ra3, .ref ra4, .int ee.2.2.2.2])), (ra1, .inr (2, [.ref rb1])), (rb1, .inl (cI, 17, .inl ee.1)), (ra2, .inr (2, [.ref rb2])), (rb2, .inl (cI, 17, .inl ee.2.1)), (ra3, .inr (2, [.ref rb3])), (rb3, .inl (cI, 17, .inl ee.2.2.1)), (ra4, .inr (2, [.ref rb4])), (rb4, .inl (cI, 17, .inl ee.2.2.2.1)), (mA, .inl (cI, 24, .inl f))] → va_S (fun q : Nat => s.heap.size ≤ q) s.heap H locs → s_On f (w, ca, dd, ee, sq, le) → lv_has ls 9 [(0, .ref b), (1, .ref h0), (2, .ref mA), (3, .int x3)] → W p l e room_1 s m #[Value.ref b] below meth c H locs (kc) (ks) (lw_Z below #[Value.ref b] s) (F0 m 15 ls [])
  | 0, k, x3, kc, ks, h1, h2, _, _, _ => absurd h1 (by omega)
  | n + 1, k, x3, kc, ks, h1, h2, ex, hkc, hks => by
    intro w ca dd ee sq le f H locs ls hP hD hS hR hl
    obtain ⟨hx, hb, hr, hml, hown0, hts0, hX, hbl, hlocks, hgv⟩ := id C0
    have hown : s.vm.findClass RL = some m.cls := hown0
    have hts : ∀ w ∈ wsL_law, w.before #[Value.ref b] s = true := fun w h => hts0 w (wsL_law_in w h)
    have hA : ∀ q : Nat, s.heap.size ≤ q → (fun q : Nat => s.heap.size ≤ q) q := fun _ h => h
    have hbA : ¬ (fun q : Nat => s.heap.size ≤ q) b := Nat.not_le.mpr hbl
    refine lv_iload_n hx hb dL_law_15 rfl (lv_at hl 3 rfl) ?_
    refine lv_iconst (v := 1) hx hb dL_law_16 (by decide) ?_
    refine lv_iadd hx hb dL_law_17 ?_
    refine lv_aload_n hx hb dL_law_18 rfl (lv_at hl 0 rfl) ?_
    refine va_slen hx hb hX hbl hbA hS dL_law_19 ?_
    refine lv_icmp_ge (tgt := 252) hx hb dL_law_20 (by decide) (fun c_1 => ?_) (fun c_1 => ?_)
    · skip
      refine lv_iconst (v := 1) hx hb dL_law_252 (by decide) ?_
      refine va_forget (fun q hq => hS.2.2 q hq) ?_
      refine W.widen (k := 669187) (n := 7093908) (by omega) (by omega) ?_
      exact lw_ret hx hb hr hlocks dL_law_253
    · skip
      refine lv_iload_n hx hb dL_law_23 rfl (lv_at hl 3 rfl) ?_
      refine lv_bipush (v := 120) hx hb dL_law_24 (by decide) ?_
      refine lv_icmp_ge (tgt := 252) hx hb dL_law_26 (by decide) (fun c_2 => ?_) (fun c_2 => ?_)
      · skip
        refine lv_iconst (v := 1) hx hb dL_law_252 (by decide) ?_
        refine va_forget (fun q hq => hS.2.2 q hq) ?_
        refine W.widen (k := 669187) (n := 7093908) (by omega) (by omega) ?_
        exact lw_ret hx hb hr hlocks dL_law_253
      · skip
        have hk2 : k + 2 ≤ L := z_hd (by omega) hL (by rw [← ex]; exact c_1)
        have hin0 : vp_in x3 L := by rw [ex]; exact vp_in_nI (by omega) (by omega)
        have hin1 : vp_in (x3 + 1) L := by rw [ex, ← nI_succ]; exact vp_in_nI (by omega) (by omega)
        obtain ⟨p0, hp0⟩ : ∃ y : Int32, xs x3.toNatClampNeg = y := ⟨_, rfl⟩
        obtain ⟨p1, hp1⟩ : ∃ y : Int32, xs (x3 + 1).toNatClampNeg = y := ⟨_, rfl⟩
        obtain ⟨q, hq1, hq2, hq3⟩ := z_r6 p1
        obtain ⟨cc, hcc, hcc3⟩ := z_r41 (p0 >>> ((6 : Int32) &&& 31))
        have hkc1 : kc + 1010 ≤ 669187 := by omega
        have hks1 : ks + 6020 ≤ 7093908 := by omega
        have hnx : lw_nx p l e s m below meth c b D cI h0 pw ct cta ih0 ia1 ia2 ia3 ia4 ib1 ib2 ib3 ib4 rh0 ra1 ra2 ra3 ra4 rb1 rb2 rb3 rb4 mA x3 kc ks := by
          intro w ca dd ee sq le f H locs ls hP hD hS hR hl
          refine lv_iinc (v := nI (k + 2)) (lv' := [(3, .int (nI (k + 2))), (0, .ref b), (1, .ref h0), (2, .ref mA)]) hx hb dL_law_246 hl (k := 3) rfl (by rw [ex]; exact nI_add k 2) (by decide) rfl (fun ls hl => ?_)
          refine lv_goto (tgt := 15) hx hb dL_law_249 (by decide) ?_
          exact law_loop l hfl hL C0 hK hTh hNc n (k + 2) (nI (k + 2)) (kc + 1010) (ks + 6020) (by omega) hk2 rfl (by omega) (by omega) w ca dd ee sq le f H locs ls hP hD hS hR (lv_sub hl [1, 2, 3, 0] rfl)
        have hbd : lw_bd p l e s m below meth c b D cI h0 pw ct cta ih0 ia1 ia2 ia3 ia4 ib1 ib2 ib3 ib4 rh0 ra1 ra2 ra3 ra4 rb1 rb2 rb3 rb4 mA x3 kc ks := lw_body l hfl C0 hK hTh hNc hkc1 hks1 (lw_tail l hfl C0 hK hTh hNc hkc1 hks1 hnx)
        refine lv_aload_n hx hb dL_law_29 rfl (lv_at hl 0 rfl) ?_
        refine lv_iload_n hx hb dL_law_30 rfl (lv_at hl 3 rfl) ?_
        refine va_sld hx hb hX hbl hbA hS hin0 dL_law_31 ?_
        refine W.eq (g2 := F0 m 32 ls [.int p0]) (by rw [hp0]) ?_
        refine lv_bipush (v := 15) hx hb dL_law_32 (by decide) ?_
        refine lv_iand hx hb dL_law_34 ?_
        refine lv_istore (lv' := [(4, .int (p0 &&& 15)), (0, .ref b), (1, .ref h0), (2, .ref mA), (3, .int x3)]) hx hb dL_law_35 hl (by decide) rfl (fun ls hl => ?_)
        refine lv_aload_n hx hb dL_law_37 rfl (lv_at hl 1 rfl) ?_
        refine lv_iload_n hx hb dL_law_38 rfl (lv_at hl 4 rfl) ?_
        refine lv_iconst (v := 1) hx hb dL_law_39 (by decide) ?_
        refine lv_iadd hx hb dL_law_40 ?_
        refine va_sld hx hb hX hbl hbA hS hin1 dL_law_41 ?_
        refine W.eq (g2 := F0 m 42 ls [.int p1]) (by rw [hp1]) ?_
        refine lv_istore (lv' := [(5, .int p1), (4, .int (p0 &&& 15)), (0, .ref b), (1, .ref h0), (2, .ref mA), (3, .int x3)]) hx hb dL_law_42 hl (by decide) rfl (fun ls hl => ?_)
        refine lv_iconst (v := 1) hx hb dL_law_44 (by decide) ?_
        refine lv_iload hx hb dL_law_45 (lv_at hl 0 rfl) ?_
        refine lv_sipush (v := 255) hx hb dL_law_47 (by decide) ?_
        refine lv_iand hx hb dL_law_50 ?_
        refine lv_bipush (v := 6) hx hb dL_law_51 (by decide) ?_
        refine lv_irem hx hb dL_law_53 (by decide) ?_
        refine lv_iadd hx hb dL_law_54 ?_
        refine W.eq (g2 := F0 m 55 ls [.int (nI q)]) (by rw [hq3]) ?_
        refine lv_istore (lv' := [(6, .int (nI q)), (5, .int p1), (4, .int (p0 &&& 15)), (0, .ref b), (1, .ref h0), (2, .ref mA), (3, .int x3)]) hx hb dL_law_55 hl (by decide) rfl (fun ls hl => ?_)
        refine lv_aload_n hx hb dL_law_57 rfl (lv_at hl 3 rfl) ?_
        refine lv_iload_n hx hb dL_law_58 rfl (lv_at hl 6 rfl) ?_
        refine va_sld hx hb hX hbl hbA hS hin0 dL_law_59 ?_
        refine W.eq (g2 := F0 m 60 ls [.int p0]) (by rw [hp0]) ?_
        refine lv_iconst (v := 4) hx hb dL_law_60 (by decide) ?_
        refine lv_ishr hx hb dL_law_61 ?_
        refine lv_iconst (v := 3) hx hb dL_law_62 (by decide) ?_
        refine lv_iand hx hb dL_law_63 ?_
        refine lv_if_ne (tgt := 89) hx hb dL_law_64 (by decide) (fun c_3 => ?_) (fun c_3 => ?_)
        · skip
          refine W.widen (k := kc + 50) (n := ks + 300) (by omega) (by omega) ?_
          exact hbd w ca dd ee sq le f p0 p1 q H locs ls hq1 hq2 hP hD hS hR (lv_sub hl [3, 4, 5, 6, 2, 1, 0] rfl)
        · skip
          refine lv_aload_n hx hb dL_law_67 rfl (lv_at hl 4 rfl) ?_
          refine lv_aload_n hx hb dL_law_68 rfl (lv_at hl 3 rfl) ?_
          refine lv_iload_n hx hb dL_law_69 rfl (lv_at hl 6 rfl) ?_
          refine va_sld hx hb hX hbl hbA hS hin0 dL_law_70 ?_
          refine W.eq (g2 := F0 m 71 ls [.int p0, .ref h0]) (by rw [hp0]) ?_
          refine lv_bipush (v := 6) hx hb dL_law_71 (by decide) ?_
          refine lv_ishr hx hb dL_law_73 ?_
          refine lv_sipush (v := 255) hx hb dL_law_74 (by decide) ?_
          refine lv_iand hx hb dL_law_77 ?_
          refine lv_bipush (v := 41) hx hb dL_law_78 (by decide) ?_
          refine lv_irem hx hb dL_law_80 (by decide) ?_
          refine W.eq (g2 := F0 m 81 ls [.int (nI cc), .ref h0]) (by rw [hcc3]) ?_
          have hPc : va_P D vwCl [(h0, .inr (3, [.ref pw, .ref ct, .ref ih0, .ref rh0, .int (zb sq), .int le])), (pw, .inr (1, [.int (zb w.1), .int w.2.1, .int w.2.2])), (ct, .inr (2, [.ref cta])), (cta, .inl (cI, 48, .inl ca)), (ih0, .inr (0, [.ref ia1, .ref ia2, .ref ia3, .ref ia4, .int dd.2.2.2.2])), (ia1, .inr (2, [.ref ib1])), (ib1, .inl (cI, 17, .inl dd.1)), (ia2, .inr (2, [.ref ib2])), (ib2, .inl (cI, 17, .inl dd.2.1)), (ia3, .inr (2, [.ref ib3])), (ib3, .inl (cI, 17, .inl dd.2.2.1)), (ia4, .inr (2, [.ref ib4])), (ib4, .inl (cI, 17, .inl dd.2.2.2.1)), (rh0, .inr (0, [.ref ra1, .ref ra2, .ref ra3, .ref ra4, .int ee.2.2.2.2])), (ra1, .inr (2, [.ref rb1])), (rb1, .inl (cI, 17, .inl ee.1)), (ra2, .inr (2, [.ref rb2])), (rb2, .inl (cI, 17, .inl ee.2.1)), (ra3, .inr (2, [.ref rb3])), (rb3, .inl (cI, 17, .inl ee.2.2.1)), (ra4, .inr (2, [.ref rb4])), (rb4, .inl (cI, 17, .inl ee.2.2.2.1))] H := hP.sub [0, 1, 2, 3, 4, 5, 6, 7, 8, 9, 10, 11, 12, 13, 14, 15, 16, 17, 18, 19, 20, 21] rfl
          have hDc : va_D (fun q : Nat => s.heap.size ≤ q) [(h0, .inr (3, [.ref pw, .ref ct, .ref ih0, .ref rh0, .int (zb sq), .int le])), (pw, .inr (1, [.int (zb w.1), .int w.2.1, .int w.2.2])), (ct, .inr (2, [.ref cta])), (cta, .inl (cI, 48, .inl ca)), (ih0, .inr (0, [.ref ia1, .ref ia2, .ref ia3, .ref ia4, .int dd.2.2.2.2])), (ia1, .inr (2, [.ref ib1])), (ib1, .inl (cI, 17, .inl dd.1)), (ia2, .inr (2, [.ref ib2])), (ib2, .inl (cI, 17, .inl dd.2.1)), (ia3, .inr (2, [.ref ib3])), (ib3, .inl (cI, 17, .inl dd.2.2.1)), (ia4, .inr (2, [.ref ib4])), (ib4, .inl (cI, 17, .inl dd.2.2.2.1)), (rh0, .inr (0, [.ref ra1, .ref ra2, .ref ra3, .ref ra4, .int ee.2.2.2.2])), (ra1, .inr (2, [.ref rb1])), (rb1, .inl (cI, 17, .inl ee.1)), (ra2, .inr (2, [.ref rb2])), (rb2, .inl (cI, 17, .inl ee.2.1)), (ra3, .inr (2, [.ref rb3])), (rb3, .inl (cI, 17, .inl ee.2.2.1)), (ra4, .inr (2, [.ref rb4])), (rb4, .inl (cI, 17, .inl ee.2.2.2.1))] := hD.sub [0, 1, 2, 3, 4, 5, 6, 7, 8, 9, 10, 11, 12, 13, 14, 15, 16, 17, 18, 19, 20, 21] (by decide) rfl
          refine z_callW (ws' := [(h0, .inr (3, [.ref pw, .ref ct, .ref ih0, .ref rh0, .int (zb sq), .int le])), (pw, .inr (1, [.int (zb ((v_cut w (nI cc)).2).1), .int (((v_cut w (nI cc)).2).2.1), .int (((v_cut w (nI cc)).2).2.2)])), (ct, .inr (2, [.ref cta])), (cta, .inl (cI, 48, .inl ca)), (ih0, .inr (0, [.ref ia1, .ref ia2, .ref ia3, .ref ia4, .int dd.2.2.2.2])), (ia1, .inr (2, [.ref ib1])), (ib1, .inl (cI, 17, .inl dd.1)), (ia2, .inr (2, [.ref ib2])), (ib2, .inl (cI, 17, .inl dd.2.1)), (ia3, .inr (2, [.ref ib3])), (ib3, .inl (cI, 17, .inl dd.2.2.1)), (ia4, .inr (2, [.ref ib4])), (ib4, .inl (cI, 17, .inl dd.2.2.2.1)), (rh0, .inr (0, [.ref ra1, .ref ra2, .ref ra3, .ref ra4, .int ee.2.2.2.2])), (ra1, .inr (2, [.ref rb1])), (rb1, .inl (cI, 17, .inl ee.1)), (ra2, .inr (2, [.ref rb2])), (rb2, .inl (cI, 17, .inl ee.2.1)), (ra3, .inr (2, [.ref rb3])), (rb3, .inl (cI, 17, .inl ee.2.2.1)), (ra4, .inr (2, [.ref rb4])), (rb4, .inl (cI, 17, .inl ee.2.2.2.1)), (mA, .inl (cI, 24, .inl f))]) [0, 1, 2, 3, 4, 5, 6, 7, 8, 9, 10, 11, 12, 13, 14, 15, 16, 17, 18, 19, 20, 21] [22] [(mA, .inl (cI, 24, .inl f))] [h0, pw, ct, cta, ih0, ia1, ib1, ia2, ib2, ia3, ib3, ia4, ib4, rh0, ra1, rb1, ra2, rb2, ra3, rb3, ra4, rb4, mA] (vx_runSW (As := [.ref h0, .int (nI cc)]) (rest := []) ⟨hx, hb, hml, hown, hts⟩ (c_L_cuts l hfl D cI h0 pw ct cta ih0 ia1 ia2 ia3 ia4 ib1 ib2 ib3 ib4 rh0 ra1 ra2 ra3 ra4 rb1 rb2 rb3 rb4 w ca dd ee sq le (nI cc) H.size) (vx_cwSW 2 hts gL_law_L_cuts rfl rfl rfl qd_L_cuts ⟨Nat.le_of_ble_eq_true rfl, Nat.le_of_ble_eq_true rfl⟩) ⟨z_Pj_blind, fun U hU hW => ⟨rfl, ⟨by rw [hU], by rw [hU]; exact hPc, va_K.moved hW.alike hK, hDc.weaken (fun _ _ _ _ => trivial), z_Th_at hTh hS (va_free hD hS hA [0, 1, 2, 3, 4, 5, 6, 7, 8, 9, 10, 11, 12, 13, 14, 15, 16, 17, 18, 19, 20, 21] rfl) hU hW⟩, fun i j h1 h2 h3 h4 h5 => va_Nc.moved hW.alike (hNc i j h1 h2 h3 h4 h5)⟩⟩ rfl rfl hl.1 rfl (lv_room (Nat.le_of_ble_eq_true rfl)) dL_law_81 ⟨show kc + 2 ≤ 669187 by omega, show ks + 12 ≤ 7093908 by omega⟩) hP hD hS hA ⟨rfl, rfl, rfl, rfl, rfl, rfl, rfl⟩ (fun H locs hP hD hS => ?_)
          refine W.eq (g2 := F0 m 84 ls [.int (e_map [(1, -2), (2, -3)] ((v_cut w (nI cc)).1) 0)]) rfl ?_
          have hv := s_On_cut hR (nI cc) (z_n1 cc hcc)
          have hv1 : v_cut w (nI cc) = (0, pw_fail w (nI cc)) := hv.1
          have hO : s_On f ((v_cut w (nI cc)).2, ca, dd, ee, sq, le) := by rw [hv1]; exact hv.2
          refine W.eq (g2 := F0 m 84 ls [.int 0]) (by rw [show e_map [(1, -2), (2, -3)] ((v_cut w (nI cc)).1) 0 = 0 by rw [hv1]; rfl]) ?_
          refine lv_if_eq (tgt := 89) hx hb dL_law_84 (by decide) (fun c_4 => ?_) (fun c_4 => ?_)
          · skip
            refine W.widen (k := kc + 50) (n := ks + 300) (by omega) (by omega) ?_
            exact hbd ((v_cut w (nI cc)).2) ca dd ee sq le f p0 p1 q H locs ls hq1 hq2 hP hD hS hO (lv_sub hl [3, 4, 5, 6, 2, 1, 0] rfl)
          · skip
            exact absurd (by decide) c_4
