/-! THEORY of p19: rename, enter -/
theorem s_nm {t : Nat} (h1 : 1 ≤ t) (h2 : t ≤ 999) : v_nm (nI t) = 0 := by
  have e1 : ¬ nI t < 1 := fun h => by
    have := (nI_ltI (show t < 2 ^ 31 by omega) (show 1 < 2 ^ 31 by decide)).mp h
    omega
  have e2 : nI t ≤ 999 := (nI_leI (show t < 2 ^ 31 by omega) (show 999 < 2 ^ 31 by decide)).mpr h2
  rw [v_nm, if_neg e1, if_pos e2]
theorem s_no {L : tL} {q : Nat} (hw : t_wf L) (hq : q ≠ 0) (h : t_len q L = 0) : ¬ q ∈ t_fs L := by
  intro hm
  obtain ⟨A, n, B, e⟩ := s_at_fs hm
  have hb := hw
  rw [e] at hb h
  have h1 := t_wf_no hb hq
  rw [t_len_at h1.1 h1.2] at h
  have h2 := (t_wf_b hb).1
  omega
theorem s_nI0 {n : Nat} (h1 : 1 ≤ n) (h2 : n ≤ 48) : ¬ nI n = 0 := nI_ne0 (by omega) (by omega)
abbrev s_fr (f : zA) (q t : Nat) : zA := upd (upd (upd f t (f q)) (8 + t) ((upd f t (f q)) (8 + q))) q 0
theorem s_rename {f : zA} {x : zV} (hx : s_On f x) {q t : Nat} (h1 : 1 ≤ q) (h2 : q ≤ 6) (k1 : 1 ≤ t) (k2 : t ≤ 6) :
    (l_re x (nI q) (nI t) = (4, 0, x.1, x.2.2.1, x.2.2.2.1) ∧ f q = 0) ∨
    ∃ n, 1 ≤ n ∧ n ≤ 48 ∧ f q = nI n ∧ ((∃ m, 1 ≤ m ∧ m ≤ 48 ∧ f t = nI m ∧ l_re x (nI q) (nI t) = (3, 0, x.1, x.2.2.1, x.2.2.2.1)) ∨
      f t = 0 ∧ ((∃ (w' : zP) (ee' : zD), l_re x (nI q) (nI t) = (0, -1, w', x.2.2.1, ee') ∧ w'.1 = false) ∨
      (∃ (w' : zP) (dd' ee' : zD), l_re x (nI q) (nI t) = (0, 0, w', dd', ee') ∧ w'.1 = true ∧ ∃ L, s_L (s_fr f q t) L ∧ s_C (s_fr f q t) x.2.1 L ∧ t_dl dd' (s_k 0 0) L ∧ ¬ 7 ∈ t_fs L))) := by
  obtain ⟨hw, hsq, hle, L, hL, hC, hd, h7⟩ := hx
  rcases s_perm hL hd h1 h2 with ⟨g1, g2⟩ | ⟨A, n, B, e, g1, g2, g3⟩
  · left
    refine ⟨?_, by rw [hL.2.2 q h1 h2, g2]; rfl⟩
    simp only [l_re, v_rename, s_pw hw, s_nm k1 (show t ≤ 999 by omega), s_rp4 g1, if_true]
    rfl
  · right
    obtain ⟨b1, b2, b3, b4, b5, b6, b7⟩ := s_of hL hd e
    have hfq : f q = nI n := by rw [hL.2.2 q h1 h2, g2]
    refine ⟨n, g3, by omega, hfq, ?_⟩
    rcases s_perm hL hd k1 k2 with ⟨j1, j2⟩ | ⟨A2, m, B2, e2, j1, j2, j3⟩
    case inr =>
      left
      obtain ⟨c1, c2, c3, c4, c5, c6, c7⟩ := s_of hL hd e2
      refine ⟨m, j3, by omega, by rw [hL.2.2 t k1 k2, j2], ?_⟩
      simp only [v_P] at j1
      simp only [l_re, v_rename, s_pw hw, s_nm k1 (show t ≤ 999 by omega), s_rp g1 b6, j1, if_neg c6, if_true]
    right
    have hft : f t = 0 := by rw [hL.2.2 t k1 k2, j2]; rfl
    refine ⟨hft, ?_⟩
    have htn := s_no hL.1 (by omega) j2
    have hqt : q ≠ t := by
      intro e3
      rw [e3, hft] at hfq
      exact s_nI0 g3 (by omega) hfq.symm
    have hw2 := hL.1
    subst e
    have hD : t_dl (v_dN x.2.2.1 x.2.2.2.1 (nI A.length) (nI t)) (s_k 0 0) (t_cat [] (A ++ ([(t, n)] ++ B))) := by
      refine s_draft (ee := x.2.2.2.1) (p := (q, n)) (M := [(t, n)]) (s_k_ok 0 0) hd (fun _ _ => rfl) (fun _ _ => rfl) (fun g => ?_) (by simp; omega) rfl rfl
      have i2 := t_len0 A
      have i1 := t_dl_add (i := t) (n := n) g (s_k_ok 0 0) (by omega)
      rw [s_k_q (by omega) (by omega)] at i1
      rw [b1, Int32.sub_self, d_addE_0]
      exact i1
    simp only [v_P] at j1 g1
    have e1 : l_re x (nI q) (nI t) = if (v_change x.1 x.2.2.1 (v_dN x.2.2.1 x.2.2.2.1 (nI A.length) (nI t))).1 = false then (0, -1, (v_change x.1 x.2.2.1 (v_dN x.2.2.1 x.2.2.2.1 (nI A.length) (nI t))).2.1, (v_change x.1 x.2.2.1 (v_dN x.2.2.1 x.2.2.2.1 (nI A.length) (nI t))).2.2, v_dN x.2.2.1 x.2.2.2.1 (nI A.length) (nI t)) else
        (0, 0, (v_change x.1 x.2.2.1 (v_dN x.2.2.1 x.2.2.2.1 (nI A.length) (nI t))).2.1, (v_change x.1 x.2.2.1 (v_dN x.2.2.1 x.2.2.2.1 (nI A.length) (nI t))).2.2, v_dN x.2.2.1 x.2.2.2.1 (nI A.length) (nI t)) := by
      simp only [l_re, v_rename, s_pw hw, s_nm k1 (show t ≤ 999 by omega), v_rp, v_P, g1, j1, if_neg b6, if_true]
    rcases s_chg (dd := x.2.2.1) (ee := v_dN x.2.2.1 x.2.2.2.1 (nI A.length) (nI t)) hw with ⟨w', c1, c2⟩ | ⟨w', c1, c2⟩
    · exact Or.inl ⟨w', _, by rw [e1, c1]; rfl, c2⟩
    refine Or.inr ⟨w', _, _, by rw [e1, c1]; rfl, c2, t_cat [] (A ++ (t, n) :: B), ?_, ?_, t_dl_take hD, ?_⟩
    · have hno := t_wf_no hw2 (show q ≠ 0 by omega)
      have hM := s_L_M hL
      refine s_M_L ⟨⟨?_, fun p hp => ?_, ?_⟩, fun y hy => ?_, fun y i1 i2 => ?_⟩ ?_
      · rw [t_sum_mid, ← t_sum_mid A B q n]; exact hM.1.1
      · rcases List.mem_append.mp hp with g | g
        · exact hM.1.2.1 p (List.mem_append_left _ g)
        · rcases List.mem_cons.mp g with g | g
          · rw [g]; exact ⟨g3, by simp only; omega⟩
          · exact hM.1.2.1 p (List.mem_append_right _ (List.mem_cons_of_mem _ g))
      · have i3 := hM.1.2.2
        rw [t_fs_mid (by omega)] at i3 htn ⊢
        rw [List.perm_middle.nodup_iff, List.nodup_cons] at i3 ⊢
        refine ⟨fun g => htn ?_, i3.2⟩
        rcases List.mem_append.mp g with g | g
        · exact List.mem_append_left _ g
        · exact List.mem_append_right _ (List.mem_cons_of_mem _ g)
      · rw [t_fs_mid (by omega)] at hy
        have i3 := hM.2.1
        rw [t_fs_mid (by omega)] at i3
        rcases List.mem_append.mp hy with g | g
        · exact i3 y (List.mem_append_left _ g)
        · rcases List.mem_cons.mp g with g | g
          · omega
          · exact i3 y (List.mem_append_right _ (List.mem_cons_of_mem _ g))
      · have i4 := hM.2.2 y i1 i2
        rw [t_len_app] at i4 ⊢
        simp only [t_len] at i4 ⊢
        by_cases hy : y = q
        · subst hy
          rw [s_fr, t_upd_e, if_neg (fun e => hqt e.symm), t_len_no hno.1, t_len_no hno.2]; rfl
        · rw [s_fr, t_upd_n hy, t_upd_n (by omega)]
          by_cases hy2 : y = t
          · subst hy2
            have l1 : t_len y A = 0 := by have := j2; rw [t_len_app] at this; omega
            have l2 : t_len y B = 0 := by have := j2; rw [t_len_app] at this; simp only [t_len] at this; omega
            rw [t_upd_e, hfq, if_pos rfl, l1, l2, Nat.zero_add, Nat.add_zero]
          · rw [t_upd_n hy2, i4, if_neg (fun e => hy e.symm), if_neg (fun e => hy2 e.symm)]
      · have i3 := t_len0 (A ++ (t, n) :: B)
        simp only [List.length_append, List.length_cons] at i3
        omega
    · refine s_C_cat (fun y a k i1 i2 i3 i hi => ?_)
      have i4 : s_at (A ++ (q, n) :: B) (if y = t then q else y) a k := by
        rcases s_at_app.mp i3 with g | ⟨b, g, i5⟩
        · have hyt : y ≠ t := by
            intro e; subst e
            exact htn (s_fs_at (by omega) (s_at_app.mpr (Or.inl g)))
          rw [if_neg hyt]; exact s_at_app.mpr (Or.inl g)
        · rcases i5 with ⟨i6, i7⟩ | ⟨c, i6, i7⟩
          · simp only [Prod.mk.injEq] at i6
            rw [if_pos i6.1.symm, g, i7, ← i6.2]
            exact s_at_mid A B q n
          · have hyt : y ≠ t := by
              intro e; subst e
              exact htn (s_fs_at (by omega) (s_at_app.mpr (Or.inr ⟨b, g, Or.inr ⟨c, i6, i7⟩⟩)))
            rw [if_neg hyt]
            exact s_at_app.mpr (Or.inr ⟨b, g, Or.inr ⟨c, i6, i7⟩⟩)
      rw [s_fr, t_upd_n (by omega)]
      by_cases hy : y = t
      · rw [if_pos hy] at i4
        rw [hy, t_upd_e, t_upd_n (by omega)]
        exact hC q a k h1 h2 i4 i hi
      · rw [if_neg hy] at i4
        rw [t_upd_n (by omega), t_upd_n (by omega)]
        exact hC y a k i1 i2 i4 i hi
    · rw [s_fs_cat, t_fs_mid (by omega)]
      rw [t_fs_mid (by omega)] at h7
      intro k
      rcases List.mem_append.mp k with g | g
      · exact h7 (List.mem_append_left _ g)
      · rcases List.mem_cons.mp g with g | g
        · omega
        · exact h7 (List.mem_append_right _ (List.mem_cons_of_mem _ g))
theorem s_call {f : zA} {x : zV} (hx : s_On f x) {q t : Nat} (h1 : 1 ≤ q) (h2 : q ≤ 6) (k1 : 1 ≤ t) (k2 : t ≤ 6) : (l_call x f (nI q) (nI t) q t).1 = true ∧ s_Ok (l_call x f (nI q) (nI t) q t).2.1 (l_call x f (nI q) (nI t) q t).2.2 := by
  rcases s_rename hx h1 h2 k1 k2 with ⟨e, e0⟩ | ⟨n, n1, n2, e0, ⟨m, m1, m2, e3, e⟩ | ⟨e3, ⟨w', ee', e, hw'⟩ | ⟨w', dd', ee', e, hw', L, hL, hC, hd, h7⟩⟩⟩
  · have hr : l_call x f (nI q) (nI t) q t = (true, f, l_S x (x.1, x.2.2.1, x.2.2.2.1)) := by
      rw [l_call, e, e0]; rfl
    rw [hr]
    exact ⟨rfl, Or.inl hx⟩
  · have hr : l_call x f (nI q) (nI t) q t = (true, f, l_S x (x.1, x.2.2.1, x.2.2.2.1)) := by
      rw [l_call, e, e0, e3, if_neg (show ¬ e_map [(1, -2), (2, -3), (4, -4), (3, -5)] 3 0 = -1 by decide), if_neg (s_nI0 n1 n2), if_neg (s_nle m1 m2)]
      rfl
    rw [hr]
    exact ⟨rfl, Or.inl hx⟩
  · have hr : l_call x f (nI q) (nI t) q t = (true, f, l_S x (w', x.2.2.1, ee')) := by
      rw [l_call, e, e0]
      simp only [s_e0, hw', if_true, if_neg (s_nle n1 n2)]
    rw [hr]
    exact ⟨rfl, Or.inr (s_Off_same hx hw' ee')⟩
  · have hr : l_call x f (nI q) (nI t) q t = (true, s_fr f q t, l_S x (w', dd', ee')) := by
      rw [l_call, e, e3, if_neg (show ¬ e_map [(1, -2), (2, -3), (4, -4), (3, -5)] 0 0 = -1 by decide), if_neg (show ¬ f q = 0 by rw [e0]; exact s_nI0 n1 n2)]
      rfl
    rw [hr]
    exact ⟨rfl, Or.inl ⟨hw', hx.2.1, hx.2.2.1, L, hL, hC, hd, h7⟩⟩
/-! enter -/
theorem s_room {f : zA} {dd : zD} {L : tL} {nm h : Int32} (hL : s_L f L) (hd : t_dl dd (s_k nm h) L) {v : Nat} (hv : 1 ≤ v) (hv2 : v ≤ 48) :
    (d_room dd.1 dd.2.1 dd.2.2.2.2 (nI v) = -1 ∧ d_long dd.1 dd.2.1 dd.2.2.2.2 < nI v) ∨
    ∃ A n B, L = A ++ (0, n) :: B ∧ d_room dd.1 dd.2.1 dd.2.2.2.2 (nI v) = nI A.length ∧ v ≤ n := by
  rw [d_room, d_long, t_clamp hd]
  have key := t_ind (P := fun X => (d_roomF dd.1 dd.2.1 (nI v) X.length = -1 ∧ ∃ a, a < v ∧ d_longF dd.1 dd.2.1 X.length = nI a) ∨ ∃ A n B, X = A ++ (0, n) :: B ∧ d_roomF dd.1 dd.2.1 (nI v) X.length = nI A.length ∧ v ≤ n) L (Or.inl ⟨rfl, 0, hv, rfl⟩) ?_
  · rcases key with ⟨h1, a, h2, h3⟩ | h1
    · exact Or.inl ⟨h1, by rw [h3]; exact nI_lt h2 (by omega)⟩
    · exact Or.inr h1
  intro A p B e ih
  obtain ⟨i, n⟩ := p
  have hd2 := hd
  rw [e] at hd2
  obtain ⟨a1, a2, -, -⟩ := t_dl_at hd2
  have hb := t_wf_b (by have := hL.1; rwa [e] at this)
  have hl := hd.2.1
  rw [e] at hl
  simp only [List.length_append, List.length_cons] at hl
  rw [List.length_append, List.length_cons, List.length_nil, d_roomF, d_longF, a1, a2]
  by_cases h0 : i = 0
  · subst h0
    rw [show s_k nm h 0 = (0, 0, -1) from rfl]
    simp only [if_true]
    by_cases h1 : n < v
    · rw [if_pos (nI_lt h1 (by omega))]
      rcases ih with ⟨h2, a, h3, h4⟩ | ⟨C, m, D, e2, h2, h3⟩
      · refine Or.inl ⟨h2, max a n, by omega, ?_⟩
        rw [h4, t_max _ _ (by omega) (by omega)]
      · exact Or.inr ⟨C, m, D ++ [(0, n)], by rw [e2]; simp, h2, h3⟩
    · have h5 : ¬ nI n < nI v := fun h => h1 ((nI_ltI (by omega) (by omega)).mp h)
      rw [if_neg h5]
      right
      rcases ih with ⟨h2, -⟩ | ⟨C, m, D, e2, h2, h3⟩
      · rw [h2, if_pos rfl]
        exact ⟨A, n, [], rfl, rfl, by omega⟩
      · rw [h2, if_neg (t_neg1 (by have := congrArg List.length e2; simp only [List.length_append, List.length_cons] at this; omega))]
        split
        · exact ⟨C, m, D ++ [(0, n)], by rw [e2]; simp, rfl, h3⟩
        · exact ⟨A, n, [], rfl, rfl, by omega⟩
  · rw [if_neg ((s_k_ok nm h).2 i h0), if_neg ((s_k_ok nm h).2 i h0)]
    rcases ih with ⟨h2, a, h3, h4⟩ | ⟨C, m, D, e2, h2, h3⟩
    · exact Or.inl ⟨h2, a, h3, h4⟩
    · exact Or.inr ⟨C, m, D ++ [(i, n)], by rw [e2]; simp, h2, h3⟩
theorem s_free0 {f : zA} {dd : zD} {L : tL} {nm h : Int32} (hL : s_L f L) (hd : t_dl dd (s_k nm h) L) (h7 : ¬ 7 ∈ t_fs L) : d_free dd.1 dd.2.2.2.1 dd.2.2.2.2 = 0 := by
  have h1 := s_tent0 hL hd h7 (nI 0)
  simp only [v_T] at h1
  rw [d_free, z_find, show 4 - 0 = 3 + 1 from rfl, z_findF]
  simp only [h1, decide_true, if_true]
  rfl
/-- the tentative file, filled up to a block -/
def s_T (f : zA) (q v : Nat) (val : Int32) (j : Nat) (x : zV) : Prop := x.1.1 = true ∧ x.2.2.2.2.1 = false ∧ x.2.2.2.2.2 = -1 ∧
  ∃ A B, s_L f (A ++ (7, v) :: B) ∧ s_C f x.2.1 (A ++ (7, v) :: B) ∧ t_dl x.2.2.1 (s_k (nI q) 0) (A ++ (7, v) :: B) ∧ ∀ i, i < j → x.2.1 (t_sum A + i) = val + nI i
theorem s_enter {f : zA} {x : zV} (hx : s_On f x) {q v : Nat} (h1 : 1 ≤ q) (h2 : q ≤ 6) (k1 : 1 ≤ v) (k2 : v ≤ 9) (val : Int32) :
    (∃ ee' : zD, l_en x (nI q) (nI v) = (3, 0, x.1, x.2.2.1, ee') ∧ ((v_free x.1 x.2.2.1 1).1 = 0 ∧ (v_free x.1 x.2.2.1 1).2 < nI v ∨ v_entries x.1 x.2.2.1 = (0, 16))) ∨
    (∃ (w' : zP) (ee' : zD), l_en x (nI q) (nI v) = (0, -1, w', x.2.2.1, ee') ∧ w'.1 = false) ∨
    (∃ (w' : zP) (dd' ee' : zD), l_en x (nI q) (nI v) = (0, 0, w', dd', ee') ∧ s_T f q v val 0 (l_S x (w', dd', ee'))) := by
  obtain ⟨hw, hsq, hle, L, hL, hC, hd, h7⟩ := hx
  have hfr := s_free0 hL hd h7
  have hv0 : ¬ nI v = 0 := s_nI0 k1 (by omega)
  have hlen : v_len x.2.2.1 (nI v) = nI v := by rw [v_len, if_neg hv0]
  have c1 : ¬ nI v < 0 := nI_pos (by omega)
  have c2 : nI v ≤ 48 := (nI_leI (show v < 2 ^ 31 by omega) (show 48 < 2 ^ 31 by decide)).mpr (by omega)
  have c3 : ¬ (0 : Int32) = -1 := by decide
  have e0 : l_en x (nI q) (nI v) = v_ent2 x.1 x.2.2.1 x.2.2.2.1 (nI q) 0 (nI v) := by
    simp only [l_en, v_enter, s_pw hw, s_nm h1 (show q ≤ 999 by omega), if_neg c1, if_pos c2, hfr, if_neg c3, hlen, if_true]
  rcases s_room hL hd k1 (show v ≤ 48 by omega) with ⟨g1, g2⟩ | ⟨A, n, B, e, g1, g2⟩
  · left
    refine ⟨x.2.2.2.1, by rw [e0, v_ent2, if_neg hv0, if_pos g1], Or.inl ?_⟩
    have c4 : ¬ (1 : Int32) = 0 := by decide
    simp only [v_free, s_pw hw, if_neg c4, if_true]
    exact ⟨trivial, g2⟩
  obtain ⟨b1, b2, b3, b4, b5, b6, b7⟩ := s_of hL hd e
  have e1 : l_en x (nI q) (nI v) = v_ent3 x.1 x.2.2.1 (v_dO x.2.2.1 x.2.2.2.1 (nI A.length) 1 (nI v) (nI q) 0) 0 := by
    rw [e0, v_ent2, if_neg hv0, g1, if_neg b6]
  have hd' : t_dl x.2.2.1 (s_k (nI q) 0) L := s_dl_n hd h7
  have hD : t_dl (v_dO x.2.2.1 x.2.2.2.1 (nI A.length) 1 (nI v) (nI q) 0) (s_k (nI q) 0) (t_cat [] (A ++ (((7, v) :: t_z (n - v)) ++ B))) := by
    rw [e] at hd'
    have hz := t_z_n (n - v)
    refine s_draft (ee := x.2.2.2.1) (p := (0, n)) (M := (7, v) :: t_z (n - v)) (s_k_ok _ _) hd' (fun _ _ => rfl) (fun _ _ => rfl) (fun g => ?_) (by simp only [List.length_cons]; omega) rfl rfl
    have i2 := t_len0 A
    have i1 := t_dl_add (i := 7) (n := v) g (s_k_ok _ _) (by omega)
    rw [s_k_7] at i1
    have i3 := t_add_n (t_cat [] A) (7, v)
    have i4 := t_dl_addE (n := n - v) i1 (s_k_ok _ _) (by omega) (by omega)
    rw [b1, z_mi (i := n) (j := v) rfl rfl g2]
    exact i4
  have hlenM := t_len0 (A ++ (((7, v) :: t_z (n - v)) ++ B))
  have hz := t_z_n (n - v)
  simp only [List.length_append, List.length_cons] at hlenM
  rcases s_rf hD with ⟨r1, r2⟩ | ⟨r1, r2⟩
  case inr =>
    left
    refine ⟨_, by rw [e1, v_ent3, r2]; rfl, Or.inr ?_⟩
    have hl16 : L.length = 16 := by
      have i1 := hL.1.2.2.2.2
      have i2 : L.length = A.length + B.length + 1 := by rw [e]; simp; omega
      omega
    rw [v_entries, if_pos (s_pw hw), hd.1, hl16]; rfl
  right
  have e2 : l_en x (nI q) (nI v) = if (v_change x.1 x.2.2.1 (v_dO x.2.2.1 x.2.2.2.1 (nI A.length) 1 (nI v) (nI q) 0)).1 = false then (0, -1, (v_change x.1 x.2.2.1 (v_dO x.2.2.1 x.2.2.2.1 (nI A.length) 1 (nI v) (nI q) 0)).2.1, (v_change x.1 x.2.2.1 (v_dO x.2.2.1 x.2.2.2.1 (nI A.length) 1 (nI v) (nI q) 0)).2.2, v_dO x.2.2.1 x.2.2.2.1 (nI A.length) 1 (nI v) (nI q) 0) else
      (0, 0, (v_change x.1 x.2.2.1 (v_dO x.2.2.1 x.2.2.2.1 (nI A.length) 1 (nI v) (nI q) 0)).2.1, (v_change x.1 x.2.2.1 (v_dO x.2.2.1 x.2.2.2.1 (nI A.length) 1 (nI v) (nI q) 0)).2.2, v_dO x.2.2.1 x.2.2.2.1 (nI A.length) 1 (nI v) (nI q) 0) := by
    rw [e1, v_ent3, if_pos r2]
  rcases s_chg (dd := x.2.2.1) (ee := v_dO x.2.2.1 x.2.2.2.1 (nI A.length) 1 (nI v) (nI q) 0) hw with ⟨w', d1, d2⟩ | ⟨w', d1, d2⟩
  · exact Or.inl ⟨w', _, by rw [e2, d1]; rfl, d2⟩
  have h7' : ¬ 7 ∈ t_fs (A ++ (0, n) :: B) := by rw [← e]; exact h7
  have hM : s_M f (A ++ (((7, v) :: t_z (n - v)) ++ B)) := by
    have hM0 := s_L_M hL
    rw [e] at hM0
    obtain ⟨⟨i1, i2, i3⟩, i4, i5⟩ := hM0
    rw [t_sum_mid] at i1
    rw [t_fs_mid0] at i3 i4 h7'
    refine ⟨⟨?_, fun p hp => ?_, ?_⟩, fun y hy => ?_, fun y j1 j2 => ?_⟩
    · rw [t_sum_app, t_sum_app, t_sum, t_sum_z]; simp only; omega
    · rcases List.mem_append.mp hp with g | g
      · exact i2 p (List.mem_append_left _ g)
      · rcases List.mem_append.mp g with g | g
        · rcases List.mem_cons.mp g with g | g
          · rw [g]; exact ⟨k1, show 7 ≤ 16 by decide⟩
          · exact t_z_ok p g
        · exact i2 p (List.mem_append_right _ (List.mem_cons_of_mem _ g))
    · rw [t_fs_app, t_fs_app]
      simp only [t_fs, t_fs_z, List.cons_append, List.nil_append, if_neg (show ¬ 7 = 0 by decide)]
      rw [List.perm_middle.nodup_iff, List.nodup_cons]
      exact ⟨h7', i3⟩
    · rw [t_fs_app, t_fs_app] at hy
      simp only [t_fs, t_fs_z, List.cons_append, List.nil_append, if_neg (show ¬ 7 = 0 by decide), List.mem_append, List.mem_cons] at hy
      rcases hy with g | g | g
      · exact i4 y (List.mem_append_left _ g)
      · omega
      · exact i4 y (List.mem_append_right _ g)
    · rw [i5 y j1 j2, t_len_app, t_len_app, t_len_app]
      simp only [t_len, if_neg (show ¬ 0 = y by omega), if_neg (show ¬ 7 = y by omega)]
      have : t_len y (t_z (n - v)) = 0 := t_len_no (fun p hp => by
        by_cases hz0 : n - v = 0
        · simp [t_z, hz0] at hp
        · simp only [t_z, if_neg hz0, List.mem_singleton] at hp
          rw [hp]; simp only; omega)
      rw [this]
  have hLn := s_M_L hM r1
  have hat : s_at (A ++ (((7, v) :: t_z (n - v)) ++ B)) 7 (t_sum A) v := s_at_app.mpr (Or.inr ⟨0, rfl, Or.inl ⟨rfl, rfl⟩⟩)
  obtain ⟨A', B', eL, hA'⟩ := s_at_split ((s_at_cat (by decide) [] (t_sum A)).mpr hat)
  refine Or.inr ⟨w', d_take x.2.2.1 (v_dO x.2.2.1 x.2.2.2.1 (nI A.length) 1 (nI v) (nI q) 0), v_dO x.2.2.1 x.2.2.2.1 (nI A.length) 1 (nI v) (nI q) 0, by rw [e2, d1]; rfl, d2, hsq, hle, A', B', by rw [← eL]; exact hLn, ?_, by rw [← eL]; exact t_dl_take hD, fun i hi => absurd hi (by omega)⟩
  rw [← eL]
  refine s_C_cat (s_C_sub hC (fun y a k j1 j2 j3 => ?_))
  rw [e]
  rcases s_at_app.mp j3 with g | ⟨b, g, j4⟩
  · exact s_at_app.mpr (Or.inl g)
  · refine s_at_app.mpr (Or.inr ⟨b, g, ?_⟩)
    rcases j4 with ⟨j5, -⟩ | ⟨c, j5, j6⟩
    · simp only [Prod.mk.injEq] at j5; omega
    · rcases s_at_app.mp j6 with g2 | ⟨c2, g2, j7⟩
      · exfalso
        have := s_fs_at (by omega) g2
        rw [t_fs_z] at this
        simp at this
      · rw [t_sum_z] at g2
        simp only at j5
        exact Or.inr ⟨c2, by simp only; omega, j7⟩
