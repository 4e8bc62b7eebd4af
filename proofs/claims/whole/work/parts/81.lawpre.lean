theorem t_hwn {w : zP} {ca : zA} {dd : zD} {sq : Bool} {le : Int32} {qq : zQ} {mo : Bool} {gr : Int32} {ints ow ki na ha : zA} {mv fr sh : Int32} (hR : t_R w ca dd sq le qq mo gr ints ow ki na ha mv fr sh) (p1 : Int32) : ∀ y, y = m_want ow p1 → y = nI y.toNatClampNeg := by
  obtain ⟨rfl, hi, L, hI, hm⟩ := hR
  intro y hy
  by_cases h0 : p1 ≤ 0
  · obtain ⟨v, hv, -, e⟩ := t_want hI (b := 0) (by decide) (by decide)
    have e2 : m_want ow p1 = m_want ow 0 := by
      rw [m_want, m_want, if_pos h0, if_pos (show (0 : Int32) ≤ 0 by decide)]
    rw [hy, e2, e, nI_clamp (by omega)]
  · have h1 : ¬ p1 < 0 := fun h => h0 (by rw [Int32.lt_iff_toInt_lt] at h; rw [Int32.le_iff_toInt_le]; omega)
    obtain ⟨j, hj, rfl⟩ := nI_of h1
    rw [hy, m_want, if_neg h0, nI_clamp hj]
theorem t_how {w : zP} {ca : zA} {dd : zD} {sq : Bool} {le : Int32} {qq : zQ} {mo : Bool} {gr : Int32} {ints ow ki na ha : zA} {mv fr sh : Int32} (hR : t_R w ca dd sq le qq mo gr ints ow ki na ha mv fr sh) : ∀ t, t < 48 → ∃ q, ow t = nI q ∧ q < 17 := by
  obtain ⟨rfl, hi, L, hI, hm⟩ := hR
  exact fun t ht => t_ow_le hI.1 hI.2.1 t ht
theorem k_map_0 {l : List Nat} {cd : Nat} (hl : l.length < 100) (h : k_map l cd = 0) : cd = 0 := by
  by_cases h0 : cd = 0
  · exact h0
  · exfalso
    rw [k_map, if_neg h0] at h
    have h1 : l.idxOf cd ≤ l.length := List.idxOf_le_length
    exact nI_ne0 (n := l.idxOf cd + 1) (by omega) (by omega) h
theorem z_lcmp0 (x : Int64) : lg_cmp x x = 0 := by simp [lg_cmp]
theorem z_rm1 {kc ks : Nat} (h1 : kc + 4 ≤ 651312) (h2 : ks + 24 ≤ 7142168) : kc + 1 ≤ room_1.cells ∧ ks + 6 ≤ room_1.slots := ⟨show kc + 1 ≤ 651312 by omega, show ks + 6 ≤ 7142168 by omega⟩
theorem z_rm2 {kc ks : Nat} (h1 : kc + 4 ≤ 651312) (h2 : ks + 24 ≤ 7142168) : kc + 2 ≤ room_1.cells ∧ ks + 12 ≤ room_1.slots := ⟨show kc + 2 ≤ 651312 by omega, show ks + 12 ≤ 7142168 by omega⟩
theorem z_rm3 {kc ks : Nat} (h1 : kc + 4 ≤ 651312) (h2 : ks + 24 ≤ 7142168) : kc + 3 ≤ room_1.cells ∧ ks + 18 ≤ room_1.slots := ⟨show kc + 3 ≤ 651312 by omega, show ks + 18 ≤ 7142168 by omega⟩
theorem z_rm4 {kc ks : Nat} (h1 : kc + 4 ≤ 651312) (h2 : ks + 24 ≤ 7142168) : kc + 4 ≤ room_1.cells ∧ ks + 24 ≤ room_1.slots := ⟨show kc + 4 ≤ 651312 by omega, show ks + 24 ≤ 7142168 by omega⟩
/-- the law goes on, at its loop's end, from any state that is right -/
def lw_nx (p : Program) (l : Launch) (e : Env) (s : State) (m : MethodId) (below : List Frame) (meth : Method) (c : Code) (b : Nat) (D : va_G) (cI cJ : ClassId) (h0 pw ct cta ih0 ia1 ia2 ia3 ia4 ib1 ib2 ib3 ib4 rh0 ra1 ra2 ra3 ra4 rb1 rb2 rb3 rb4 ot m0 g1 g2 g3 g4 g5 g6 : Nat) (x4 : Int32) (kc ks : Nat) : Prop :=
  ∀ (w : zP) (ca : zA) (dd ee : zD) (sq : Bool) (le code : Int32) (qq : zQ) (mo : Bool) (gr mv fr sh cp ra rl : Int32) (ints ow nx ki na ha : zA) (ff : Nat → Int64) (H : Heap) (locs : List Loc) (ls : Array Slot), va_P D vwCl [(h0, .inr (3, [.ref pw, .ref ct, .ref ih0, .ref rh0, .int (zb sq), .int le])), (pw, .inr (1, [.int (zb w.1), .int w.2.1, .int w.2.2])), (ct, .inr (2, [.ref cta])), (cta, .inl (cI, 48, .inl ca)), (ih0, .inr (0, [.ref ia1, .ref ia2, .ref ia3, .ref ia4, .int dd.2.2.2.2])), (ia1, .inr (2, [.ref ib1])), (ib1, .inl (cI, 17, .inl dd.1)), (ia2, .inr (2, [.ref ib2])), (ib2, .inl (cI, 17, .inl dd.2.1)), (ia3, .inr (2, [.ref ib3])), (ib3, .inl (cI, 17, .inl dd.2.2.1)), (ia4, .inr (2, [.ref ib4])), (ib4, .inl (cI, 17, .inl dd.2.2.2.1)), (rh0, .inr (0, [.ref ra1, .ref ra2, .ref ra3, .ref ra4, .int ee.2.2.2.2])), (ra1, .inr (2, [.ref rb1])), (rb1, .inl (cI, 17, .inl ee.1)), (ra2, .inr (2, [.ref rb2])), (rb2, .inl (cI, 17, .inl ee.2.1)), (ra3, .inr (2, [.ref rb3])), (rb3, .inl (cI, 17, .inl ee.2.2.1)), (ra4, .inr (2, [.ref rb4])), (rb4, .inl (cI, 17, .inl ee.2.2.2.1)), (ot, .inl (cJ, 1, .inr (.inl ff))), (m0, .inr (4, [.int code, .int (zb qq.1), .int qq.2.1, .int qq.2.2.1, .ref g1, .ref g2, .ref g3, .ref g4, .ref g5, .ref g6, .int (zb qq.2.2.2), .int (zb false), .int (zb mo), .int mv, .int fr, .int sh, .int gr, .int cp, .int ra, .int rl])), (g1, .inl (cI, 48, .inl ints)), (g2, .inl (cI, 48, .inl ow)), (g3, .inl (cI, 48, .inl nx)), (g4, .inl (cI, 17, .inl ki)), (g5, .inl (cI, 17, .inl na)), (g6, .inl (cI, 17, .inl ha))] H → va_D (fun q : Nat => s.heap.size ≤ q) [(h0, .inr (3, [.ref pw, .ref ct, .ref ih0, .ref rh0, .int (zb sq), .int le])), (pw, .inr (1, [.int (zb w.1), .int w.2.1, .int w.2.2])), (ct, .inr (2, [.ref cta])), (cta, .inl (cI, 48, .inl ca)), (ih0, .inr (0, [.ref ia1, .ref ia2, .ref ia3, .ref ia4, .int dd.2.2.2.2])), (ia1, .inr (2, [.ref ib1])), (ib1, .inl (cI, 17, .inl dd.1)), (ia2, .inr (2, [.ref ib2])), (ib2, .inl (cI, 17, .inl dd.2.1)), (ia3, .inr (2, [.ref ib3])), (ib3, .inl (cI, 17, .inl dd.2.2.1)), (ia4, .inr (2, [.ref ib4])), (ib4, .inl (cI, 17, .inl dd.2.2.2.1)), (rh0, .inr (0, [.ref ra1, .ref ra2, .ref ra3, .ref ra4, .int ee.2.2.2.2])), (ra1, .inr (2, [.ref rb1])), (rb1, .inl (cI, 17, .inl ee.1)), (ra2, .inr (2, [.ref rb2])), (rb2, .inl (cI, 17, .inl ee.2.1)), (ra3, .inr (2, [.ref rb3])), (rb3, .inl (cI, 17, .inl ee.2.2.1)), (ra4, .inr (2, [.ref rb4])), (rb4, .inl (cI, 17, .inl ee.2.2.2.1)), (ot, .inl (cJ, 1, .inr (.inl ff))), (m0, .inr (4, [.int code, .int (zb qq.1), .int qq.2.1, .int qq.2.2.1, .ref g1, .ref g2, .ref g3, .ref g4, .ref g5, .ref g6, .int (zb qq.2.2.2), .int (zb false), .int (zb mo), .int mv, .int fr, .int sh, .int gr, .int cp, .int ra, .int rl])), (g1, .inl (cI, 48, .inl ints)), (g2, .inl (cI, 48, .inl ow)), (g3, .inl (cI, 48, .inl nx)), (g4, .inl (cI, 17, .inl ki)), (g5, .inl (cI, 17, .inl na)), (g6, .inl (cI, 17, .inl ha))] → va_S (fun q : Nat => s.heap.size ≤ q) s.heap H locs → t_R w ca dd sq le qq mo gr ints ow ki na ha mv fr sh → lv_has ls 7 [(0, .ref b), (1, .ref h0), (2, .ref m0), (3, .ref ot), (4, .int x4)] →
    W p l e room_1 s m #[Value.ref b] below meth c H locs (kc + 4) (ks + 24) (lw_Z below #[Value.ref b] s) (F0 m 970 ls [])
