/-! THEORY of p19: put, close, purge, store -/
theorem s_T_Off {f : zA} {q v j : Nat} {val : Int32} {x : zV} (hT : s_T f q v val j x) {w' : zP} (hw : w'.1 = false) (ee' : zD) : s_Off f (l_S x (w', x.2.2.1, ee')) := by
  obtain ⟨-, hsq, hle, A, B, hL, hC, hd, -⟩ := hT
  exact ⟨hw, Or.inl ⟨hsq, hle, _, nI q, 0, hL, hC, hd⟩⟩
theorem s_put {f : zA} {q v j : Nat} {val : Int32} {x : zV} (hT : s_T f q v val j x) (hj : j < v) :
    (∃ w' : zP, l_pu x 0 (nI j) (val + nI j) = (0, -1, w', x.2.1) ∧ w'.1 = false) ∨
    (∃ (w' : zP) (ca' : zA), l_pu x 0 (nI j) (val + nI j) = (0, 0, w', ca') ∧ s_T f q v val (j + 1) (w', ca', x.2.2)) := by
  obtain ⟨hw, hsq, hle, A, B, hL, hC, hd, hc⟩ := hT
  obtain ⟨b1, b2, b3, b4, b5, b6, b7⟩ := s_of hL hd rfl
  have g1 := s_tent hL hd rfl
  have c1 : ¬ nI j < 0 := nI_pos (by omega)
  have c2 : nI j < nI v := nI_lt hj (by omega)
  have e0 : l_pu x 0 (nI j) (val + nI j) = if (v_wb x.1 x.2.1 (nI (t_sum A + j)) (val + nI j)).1 = false then (0, -1, (v_wb x.1 x.2.1 (nI (t_sum A + j)) (val + nI j)).2) else (0, 0, (v_wb x.1 x.2.1 (nI (t_sum A + j)) (val + nI j)).2) := by
    have g2 := s_rt g1 b6
    simp only [l_pu, v_put, s_pw hw, g2, v_rb, g1, b1, b2, if_neg c1, if_pos c2, nI_add, if_true]
  have hp := s_w hw
  by_cases h : (pw_write x.1).1 = false
  · refine Or.inl ⟨(pw_write x.1).2, ?_, by rw [hp, h]⟩
    rw [e0, v_wb, if_pos h]; rfl
  · have h2 : (pw_write x.1).1 = true := by simpa using h
    refine Or.inr ⟨(pw_write x.1).2, upd x.2.1 (t_sum A + j) (val + nI j), ?_, by rw [hp, h2], hsq, hle, A, B, hL, ?_, hd, ?_⟩
    · rw [e0, v_wb, if_neg h, r_set_n _ _ (by omega) (by decide)]; rfl
    · intro y a k i1 i2 i3 i hi
      show upd x.2.1 (t_sum A + j) (val + nI j) (a + i) = f (8 + y) + nI i
      rw [t_upd_n (s_at_ap i3 (s_at_mid A B 7 v) (by omega) hi hj)]
      exact hC y a k i1 i2 i3 i hi
    · intro i hi
      show upd x.2.1 (t_sum A + j) (val + nI j) (t_sum A + i) = val + nI i
      by_cases e : i = j
      · rw [e, t_upd_e]
      · rw [t_upd_n (show t_sum A + i ≠ t_sum A + j by omega)]
        exact hc i (by omega)
theorem s_undone {f : zA} {q v j : Nat} {val : Int32} {x : zV} (hT : s_T f q v val j x) : (l_undone x 0 (nI v)).1 = true ∧ s_Ok f (l_undone x 0 (nI v)).2 := by
  have hT0 := hT
  obtain ⟨hw, hsq, hle, A, B, hL, hC, hd, hc⟩ := hT
  obtain ⟨b1, b2, b3, b4, b5, b6, b7⟩ := s_of hL hd rfl
  have g1 := s_tent hL hd rfl
  have e0 : l_pr x 0 = (0, v_me x.1 x.2.2.1 x.2.2.2.1 (nI A.length)) := by
    simp only [l_pr, v_purge, s_pw hw, s_rt g1 b6, g1, if_true]
  have hv1 : ¬ (-1 : Int32) = nI v := fun e => t_neg1 (show v < 2 ^ 31 by omega) e.symm
  rcases s_me (ee := x.2.2.2.1) hw hL hd rfl with ⟨w', ee', c1, c2⟩ | ⟨w', dd', ee', c1, c2, c3⟩
  · have hr : l_undone x 0 (nI v) = (true, l_S x (w', x.2.2.1, ee')) := by
      rw [l_undone, e0, c1]
      simp only [s_e0, if_neg hv1, c2, if_true]
    rw [hr]
    exact ⟨rfl, Or.inr (s_T_Off hT0 c2 ee')⟩
  · have hr : l_undone x 0 (nI v) = (true, l_S x (w', dd', ee')) := by
      rw [l_undone, e0, c1]
      simp only [s_e0, if_true]
    rw [hr]
    have h7 : ¬ 7 ∈ t_fs (t_cat [] (A ++ (0, v) :: B)) := by
      rw [s_fs_cat]; exact t_not_mid hL.1 (by decide)
    refine ⟨rfl, Or.inl ⟨c2, hsq, hle, t_cat [] (A ++ (0, v) :: B), ?_, ?_, s_dl_n c3 h7, h7⟩⟩
    · exact s_M_L (s_M_rem (s_L_M hL) (by decide) (fun y k1 k2 => by rw [if_neg (by omega)])) (s_len1 (7, v) hL.1.2.2.2.2)
    · exact s_C_cat (s_C_sub hC (fun y a k k1 k2 k3 => s_at_rem (by omega) k3))
theorem s_purged {f : zA} {q v j : Nat} {val : Int32} {x : zV} (hT : s_T f q v val j x) : (l_purged x 0 (nI v)).1 = true ∧ s_Ok f (l_purged x 0 (nI v)).2 := by
  have hT0 := hT
  obtain ⟨hw, hsq, hle, A, B, hL, hC, hd, hc⟩ := hT
  obtain ⟨b1, b2, b3, b4, b5, b6, b7⟩ := s_of hL hd rfl
  have g1 := s_tent hL hd rfl
  have c1 : ¬ nI (v + 1) < 1 := fun h => by
    have := (nI_ltI (show v + 1 < 2 ^ 31 by omega) (show 1 < 2 ^ 31 by decide)).mp h
    omega
  have c2 : ¬ nI (v + 1) ≤ nI v := fun h => by
    have := (nI_leI (show v + 1 < 2 ^ 31 by omega) (show v < 2 ^ 31 by omega)).mp h
    omega
  have e0 : l_cl x 0 (nI v + 1) = (2, 0, x.1, x.2.2.1, x.2.2.2.1) := by
    rw [← nI_succ]
    simp only [l_cl, v_close, s_pw hw, s_rt g1 b6, g1, b1, if_neg c1, if_neg c2, if_true]
  obtain ⟨u1, u2⟩ := s_undone hT0
  have hr : l_purged x 0 (nI v) = (true, (l_undone x 0 (nI v)).2) := by
    rw [l_purged, e0]
    simp only [show e_map [(1, -2), (4, -3), (2, -4), (3, -5)] 2 0 = -4 from rfl, if_true]
    rw [show l_S x (x.1, x.2.2.1, x.2.2.2.1) = x from rfl, u1]
    rfl
  rw [hr]
  exact ⟨rfl, u2⟩
/-! close -/
/-- another numbering of the files -/
abbrev s_rl (g : Nat → Nat) (p : Nat × Nat) : Nat × Nat := (g p.1, p.2)
theorem s_add_map {g : Nat → Nat} (hg : ∀ i, g i = 0 ↔ i = 0) : ∀ (X : tL) (p : Nat × Nat), t_add (X.map (s_rl g)) (s_rl g p) = (t_add X p).map (s_rl g)
  | [], p => rfl
  | [q], p => by
    simp only [List.map_cons, List.map_nil, t_add, hg]
    by_cases h : q.1 = 0 ∧ p.1 = 0
    · rw [if_pos h, if_pos h]
      simp only [List.map_cons, List.map_nil, s_rl, (hg 0).mpr rfl]
    · rw [if_neg h, if_neg h]; rfl
  | q :: r :: X, p => by
    have ih := s_add_map hg (r :: X) p
    simp only [List.map_cons, t_add] at ih ⊢
    rw [ih]
theorem s_cat_map {g : Nat → Nat} (hg : ∀ i, g i = 0 ↔ i = 0) (M : tL) : ∀ X : tL, t_cat (X.map (s_rl g)) (M.map (s_rl g)) = (t_cat X M).map (s_rl g) := by
  induction M with
  | nil => intro X; rfl
  | cons p r ih =>
    intro X
    rw [List.map_cons, t_cat_cons, t_cat_cons, s_add_map hg, ih]
theorem s_dl_map {d : zD} {κ κ' : tK} {g : Nat → Nat} {L : tL} (hd : t_dl d κ L) (hk : ∀ p ∈ L, κ p.1 = κ' (g p.1)) : t_dl d κ' (L.map (s_rl g)) := by
  refine ⟨by rw [List.length_map]; exact hd.1, by rw [List.length_map]; exact hd.2.1, fun j p hj => ?_⟩
  rw [List.getElem?_map] at hj
  cases hx : L[j]? with
  | none => rw [hx] at hj; cases hj
  | some p0 =>
    rw [hx] at hj
    have hp : s_rl g p0 = p := Option.some.inj hj
    have h1 := hd.2.2 j p0 hx
    rw [hk p0 (List.mem_of_getElem? hx)] at h1
    rw [← hp]; exact h1
theorem s_em_len {q y : Nat} (hy : y ≠ 0) (hyq : y ≠ q) (M : tL) : t_len y (M.map (t_em (fun i => decide (i = q)))) = t_len y M := by
  induction M with
  | nil => rfl
  | cons p r ih =>
    obtain ⟨i, n⟩ := p
    simp only [List.map_cons, t_len, ih, t_em, decide_eq_true_eq]
    by_cases h1 : i = q
    · rw [if_pos h1]
      simp only [if_neg (fun e => hy (e : 0 = y).symm), if_neg (show ¬ i = y by rw [h1]; exact fun e => hyq e.symm)]
    · rw [if_neg h1]
theorem s_em_lenq {q : Nat} (hq : q ≠ 0) (M : tL) : t_len q (M.map (t_em (fun i => decide (i = q)))) = 0 := by
  induction M with
  | nil => rfl
  | cons p r ih =>
    obtain ⟨i, n⟩ := p
    simp only [List.map_cons, t_len, ih, t_em, decide_eq_true_eq]
    by_cases h1 : i = q
    · rw [if_pos h1, if_neg (fun e => hq (e : 0 = q).symm)]
    · rw [if_neg h1, if_neg h1]
theorem s_em_at {q y a n : Nat} (hy : y ≠ 0) {M : tL} (h : s_at (M.map (t_em (fun i => decide (i = q)))) y a n) : s_at M y a n := by
  induction M generalizing a with
  | nil => exact h
  | cons p r ih =>
    obtain ⟨i, m⟩ := p
    rw [List.map_cons] at h
    rcases h with ⟨h1, h2⟩ | ⟨b, h1, h2⟩
    · left
      refine ⟨?_, h2⟩
      unfold t_em at h1
      split at h1
      · simp only [Prod.mk.injEq] at h1; exact absurd h1.1.symm hy
      · exact h1
    · right
      refine ⟨b, ?_, ih h2⟩
      have h3 : (t_em (fun i => decide (i = q)) (i, m)).2 = m := by unfold t_em; split <;> rfl
      rw [h3] at h1
      exact h1
theorem s_em_map {q : Nat} {M : tL} (h : ∀ p ∈ M, p.1 ≠ 7) : (M.map (t_em (fun i => decide (i = q)))).map (s_rl (fun i => if i = 7 then q else i)) = M.map (t_em (fun i => decide (i = q))) := by
  rw [List.map_map]
  apply List.map_congr_left
  intro p hp
  obtain ⟨i, m⟩ := p
  have h1 := h _ hp
  simp only at h1
  simp only [Function.comp, t_em, decide_eq_true_eq]
  by_cases h2 : i = q
  · rw [if_pos h2]; rfl
  · rw [if_neg h2]; simp only [s_rl, if_neg h1]
theorem s_z_map {q m : Nat} : (t_z m).map (s_rl (fun i => if i = 7 then q else i)) = t_z m := by
  by_cases h : m = 0
  · simp [t_z, h]
  · simp [t_z, h, s_rl]
theorem s_z_len {q m : Nat} (hq : q ≠ 0) : t_len q (t_z m) = 0 := t_len_no (fun p hp => by
  by_cases h : m = 0
  · simp [t_z, h] at hp
  · simp only [t_z, if_neg h, List.mem_singleton] at hp
    rw [hp]; exact fun e => hq (e : 0 = q).symm)
abbrev s_fc (f : zA) (q u : Nat) (val : Int32) : zA := upd (upd f q (nI u)) (8 + q) val
/-- the row of entries that closing leaves -/
abbrev s_R (A B : tL) (q u v : Nat) : tL := A.map (t_em (fun i => decide (i = q))) ++ (((q, u) :: t_z (v - u)) ++ B.map (t_em (fun i => decide (i = q))))
theorem s_R_M {f : zA} {A B : tL} {q u v : Nat} {val : Int32} (hL : s_L f (A ++ (7, v) :: B)) (h1 : 1 ≤ q) (h2 : q ≤ 6) (u1 : 1 ≤ u) (u2 : u ≤ v) : s_M (s_fc f q u val) (s_R A B q u v) := by
  obtain ⟨⟨i1, i2, i3⟩, i4, i5⟩ := s_L_M hL
  rw [t_sum_mid] at i1
  rw [t_fs_mid (by decide)] at i3 i4
  refine ⟨⟨?_, fun p hp => ?_, ?_⟩, fun y hy => ?_, fun y j1 j2 => ?_⟩
  · rw [t_sum_app, t_sum_app, t_sum, t_sum_z, t_em_sum, t_em_sum]; simp only; omega
  · rcases List.mem_append.mp hp with g | g
    · exact t_em_ok (fun p hp => i2 p (List.mem_append_left _ hp)) p g
    · rcases List.mem_append.mp g with g | g
      · rcases List.mem_cons.mp g with g | g
        · rw [g]; exact ⟨u1, show q ≤ 16 by omega⟩
        · exact t_z_ok p g
      · exact t_em_ok (fun p hp => i2 p (List.mem_append_right _ (List.mem_cons_of_mem _ hp))) p g
  · rw [t_fs_app, t_fs_app, t_em_fs, t_em_fs]
    simp only [t_fs, t_fs_z, List.cons_append, List.nil_append, if_neg (show ¬ q = 0 by omega)]
    rw [List.perm_middle.nodup_iff, List.nodup_cons] at i3 ⊢
    refine ⟨fun g => ?_, i3.2.sublist (List.Sublist.append List.filter_sublist List.filter_sublist)⟩
    rcases List.mem_append.mp g with g | g
    · have := (List.mem_filter.mp g).2; simp at this
    · have := (List.mem_filter.mp g).2; simp at this
  · rw [t_fs_app, t_fs_app, t_em_fs, t_em_fs] at hy
    simp only [t_fs, t_fs_z, List.cons_append, List.nil_append, if_neg (show ¬ q = 0 by omega), List.mem_append, List.mem_cons] at hy
    rcases hy with g | g | g
    · exact i4 y (List.mem_append_left _ (List.mem_filter.mp g).1)
    · omega
    · exact i4 y (List.mem_append_right _ (List.mem_cons_of_mem _ (List.mem_filter.mp g).1))
  · rw [s_fc, t_upd_n (by omega), t_len_app, t_len_app]
    simp only [t_len]
    rw [s_z_len (by omega)]
    by_cases hy : y = q
    · subst hy
      rw [t_upd_e, s_em_lenq (by omega), s_em_lenq (by omega), if_pos rfl] <;> (congr 1; omega)
    · rw [t_upd_n hy, i5 y j1 j2, s_em_len (by omega) hy, s_em_len (by omega) hy, if_neg (fun e => hy e.symm), t_len_app]
      simp only [t_len, if_neg (show ¬ 7 = y by omega)] <;> (congr 1; omega)
theorem s_R_C {f ca : zA} {A B : tL} {q u v : Nat} {val : Int32} (hL : s_L f (A ++ (7, v) :: B)) (hC : s_C f ca (A ++ (7, v) :: B)) (h1 : 1 ≤ q) (h2 : q ≤ 6) (u1 : 1 ≤ u) (u2 : u ≤ v) (hc : ∀ i, i < v → ca (t_sum A + i) = val + nI i) : s_C (s_fc f q u val) ca (s_R A B q u v) := by
  intro y a k i1 i2 i3 i hi
  by_cases hy : y = q
  · have hM := s_R_M (val := val) hL h1 h2 u1 u2
    have hat : s_at (s_R A B q u v) q (t_sum A) u := s_at_app.mpr (Or.inr ⟨0, by rw [t_em_sum]; rfl, Or.inl ⟨rfl, rfl⟩⟩)
    subst hy
    obtain ⟨g1, g2⟩ := s_at_uq (by omega) hM.1.2.2 i3 hat
    rw [s_fc, t_upd_e, g1]
    exact hc i (by omega)
  · rw [s_fc, t_upd_n (by omega), t_upd_n (by omega)]
    refine hC y a k i1 i2 ?_ i hi
    rcases s_at_app.mp i3 with g | ⟨b, g, j4⟩
    · exact s_at_app.mpr (Or.inl (s_em_at (by omega) g))
    · rw [t_em_sum] at g
      refine s_at_app.mpr (Or.inr ⟨b, g, ?_⟩)
      rcases j4 with ⟨j5, -⟩ | ⟨c, j5, j6⟩
      · simp only [Prod.mk.injEq] at j5; exact absurd j5.1.symm hy
      · rcases s_at_app.mp j6 with g2 | ⟨c2, g2, j7⟩
        · exfalso
          have := s_fs_at (by omega) g2
          rw [t_fs_z] at this
          simp at this
        · rw [t_sum_z] at g2
          simp only at j5
          exact Or.inr ⟨c2, by simp only; omega, s_em_at (by omega) j7⟩
def s_kc (q : Nat) : tK := fun i => if i = 7 then (2, nI q, -1) else s_k 0 0 i
theorem s_kc_ok (q : Nat) : t_ok (s_kc q) := by
  refine ⟨by simp [s_kc, s_k], fun i hi => ?_⟩
  by_cases h : i = 7
  · simp only [s_kc, if_pos h]; show (2 : Int32) ≠ 0; decide
  · simp only [s_kc, if_neg h]; exact (s_k_ok 0 0).2 i hi
theorem s_close {f : zA} {x : zV} {q v : Nat} {val : Int32} (hT : s_T f q v val v x) (h1 : 1 ≤ q) (h2 : q ≤ 6) {u : Nat} (u1 : 1 ≤ u) (u2 : u ≤ v) :
    (∃ ee' : zD, l_cl x 0 (nI u) = (3, 0, x.1, x.2.2.1, ee')) ∨
    (∃ (w' : zP) (ee' : zD), l_cl x 0 (nI u) = (0, -1, w', x.2.2.1, ee') ∧ w'.1 = false) ∨
    (∃ (w' : zP) (dd' ee' : zD) (o : Nat), o ≤ 48 ∧ f q = nI o ∧ l_cl x 0 (nI u) = (0, nI (v - u + o), w', dd', ee') ∧ s_On (s_fc f q u val) (l_S x (w', dd', ee'))) := by
  obtain ⟨hw, hsq, hle, A, B, hL, hC, hd, hc⟩ := hT
  obtain ⟨b1, b2, b3, b4, b5, b6, b7⟩ := s_of hL hd rfl
  have g1 := s_tent hL hd rfl
  have c1 : ¬ nI u < 1 := fun h => by
    have := (nI_ltI (show u < 2 ^ 31 by omega) (show 1 < 2 ^ 31 by decide)).mp h
    omega
  have c2 : nI u ≤ nI v := (nI_leI (show u < 2 ^ 31 by omega) (show v < 2 ^ 31 by omega)).mpr u2
  have hno := t_wf_no hL.1 (show 7 ≠ 0 by decide)
  have hb := t_wf_b hL.1
  have hk7 : ∀ p ∈ A ++ (7, v) :: B, p.1 ≠ 7 → s_k (nI q) 0 p.1 = s_kc q p.1 := by
    intro p hp h
    rw [s_kc, if_neg h]; exact s_k_n h
  have hraw : (A ++ (7, v) :: B).flatMap (t_gc 7 u q) = A.map (t_em (fun i => decide (i = q))) ++ (((7, u) :: t_z (v - u)) ++ B.map (t_em (fun i => decide (i = q)))) := by
    rw [List.flatMap_append, List.flatMap_cons, t_gc_no hno.1, t_gc_no hno.2]
    simp only [t_gc, if_true]
  have hz := t_z_n (v - u)
  have hD : t_dl (v_dC x.2.2.1 x.2.2.2.1 (nI A.length) (nI u)) (s_kc q) (t_cat [] (A.map (t_em (fun i => decide (i = q))) ++ (((7, u) :: t_z (v - u)) ++ B.map (t_em (fun i => decide (i = q)))))) := by
    have i1 := t_dCF (dd := x.2.2.1) (κ := s_kc q) (κo := s_k (nI q) 0) (f := 7) (u := u) (g := q) (k := nI A.length) (nm := nI q) (old := v_P x.2.2.1 (nI q)) (s_kc_ok q) hL.1 hd (by decide) rfl hk7
      (fun p hp he => by
        obtain ⟨C, D, e2⟩ := List.append_of_mem hp
        obtain ⟨i, m⟩ := p
        simp only at he
        subst he
        have := t_uniq (by decide) hL.1.2.2.2.1 e2
        simp only; omega)
      (fun C p D e2 => by
        constructor
        · intro h
          have hl := hL.1.2.2.2.2
          rw [e2] at hl
          simp only [List.length_append, List.length_cons] at hl
          have h2 := (nI_eq (by omega) (by omega)).mp h
          have h3 := List.append_inj e2 h2.symm
          have h4 := h3.2
          simp only [List.cons.injEq] at h4
          rw [← h4.1]
        · intro h
          obtain ⟨i, m⟩ := p
          simp only at h
          subst h
          rw [(t_uniq (by decide) hL.1.2.2.2.1 e2).1])
      (fun C p D e2 => by
        obtain ⟨i, m⟩ := p
        have hl := hL.1.2.2.2.2
        rw [e2] at hl
        simp only [List.length_append, List.length_cons] at hl
        rcases s_perm hL hd h1 h2 with ⟨j1, j2⟩ | ⟨A2, n2, B2, e3, j1, j2, j3⟩
        · rw [j1]
          constructor
          · intro h; exact absurd h (t_neg1 (by omega))
          · rintro ⟨h, -⟩
            simp only at h
            subst h
            exact absurd (t_fs_mem.mpr ⟨by omega, m, by rw [e2]; simp⟩) (s_no hL.1 (by omega) j2)
        · rw [j1]
          have hl2 := hL.1.2.2.2.2
          rw [e3] at hl2
          simp only [List.length_append, List.length_cons] at hl2
          constructor
          · intro h
            have h3 := (nI_eq (by omega) (by omega)).mp h
            have h4 := (List.append_inj (e2.symm.trans e3) h3).2
            simp only [List.cons.injEq, Prod.mk.injEq] at h4
            exact ⟨h4.1.1, by omega⟩
          · rintro ⟨h, -⟩
            simp only at h
            subst h
            have hn := hL.1.2.2.2.1
            rw [e2] at hn
            rw [(t_uniq (by omega) hn (e2.symm.trans e3)).1])
      (A ++ (7, v) :: B) [] [] (d_clear x.2.2.2.1) rfl (t_dl_clear x.2.2.2.1 _) (by rw [hraw]; simp only [List.length_append, List.length_map, List.length_cons, List.length_nil]; omega)
    rw [hraw] at i1
    have b3' : r_at 17 x.2.2.1.2.2.1 (nI A.length) = nI q := b3
    have hN : (x.2.2.1.2.2.2.2.toInt - (0 : Int32).toInt).toNat = (A ++ (7, v) :: B).length := by
      have h0 : (0 : Int32).toInt = 0 := rfl
      rw [hd.1, nI_toInt (by simp only [List.length_append, List.length_cons]; omega)]
      omega
    rw [v_dC, b3', hN]
    exact i1
  have hR : t_dl (v_dC x.2.2.1 x.2.2.2.1 (nI A.length) (nI u)) (s_k 0 0) (t_cat [] (s_R A B q u v)) := by
    have hg : ∀ i, (fun i => if i = 7 then q else i) i = 0 ↔ i = 0 := by
      intro i
      by_cases h : i = 7
      · simp only [if_pos h]; omega
      · simp only [if_neg h]
    have i1 := s_dl_map (κ' := s_k 0 0) (g := fun i => if i = 7 then q else i) hD (fun p hp => by
      by_cases h : p.1 = 7
      · simp only [s_kc, if_pos h]
        rw [s_k_q (by omega) (by omega)]
      · simp only [s_kc, if_neg h])
    rw [← s_cat_map hg] at i1
    simp only [List.map_append, List.map_cons, List.map_nil, s_em_map hno.1, s_em_map hno.2, s_z_map] at i1
    exact i1
  have hgain : d_emp (v_dC x.2.2.1 x.2.2.2.1 (nI A.length) (nI u)).1 (v_dC x.2.2.1 x.2.2.2.1 (nI A.length) (nI u)).2.1 (v_dC x.2.2.1 x.2.2.2.1 (nI A.length) (nI u)).2.2.2.2 - d_emp x.2.2.1.1 x.2.2.1.2.1 x.2.2.1.2.2.2.2 = nI (v - u + t_len q (A ++ (7, v) :: B)) := by
    rw [t_emp (s_k_ok 0 0) hR, t_emp (s_k_ok _ _) hd, t_cat_len]
    have l1 : t_len 0 (s_R A B q u v) = t_len 0 (A ++ (7, v) :: B) + (v - u + t_len q (A ++ (7, v) :: B)) := by
      rw [t_len_app, t_len_app, t_em_len q (by omega), t_len_app, t_len_app]
      simp only [t_len, if_neg (show ¬ q = 0 by omega), if_neg (show ¬ 7 = 0 by decide), if_neg (show ¬ 7 = q by omega)]
      rw [t_em_len q (by omega), t_len_z]
      omega
    rw [l1, t_len, Nat.zero_add]
    have l2 := s_len48 hL.1 0
    rw [z_mi (i := t_len 0 (A ++ (7, v) :: B) + (v - u + t_len q (A ++ (7, v) :: B))) (j := t_len 0 (A ++ (7, v) :: B)) rfl rfl (by omega)]
    congr 1; omega
  have e0 : l_cl x 0 (nI u) = v_ent3 x.1 x.2.2.1 (v_dC x.2.2.1 x.2.2.2.1 (nI A.length) (nI u)) (nI (v - u + t_len q (A ++ (7, v) :: B))) := by
    simp only [l_cl, v_close, s_pw hw, s_rt g1 b6, g1, b1, if_neg c1, if_pos c2, hgain, if_true]
  rcases s_rf hR with ⟨r1, r2⟩ | ⟨r1, r2⟩
  case inr => exact Or.inl ⟨_, by rw [e0, v_ent3, r2]; rfl⟩
  right
  have e1 : l_cl x 0 (nI u) = if (v_change x.1 x.2.2.1 (v_dC x.2.2.1 x.2.2.2.1 (nI A.length) (nI u))).1 = false then (0, -1, (v_change x.1 x.2.2.1 (v_dC x.2.2.1 x.2.2.2.1 (nI A.length) (nI u))).2.1, (v_change x.1 x.2.2.1 (v_dC x.2.2.1 x.2.2.2.1 (nI A.length) (nI u))).2.2, v_dC x.2.2.1 x.2.2.2.1 (nI A.length) (nI u)) else
      (0, nI (v - u + t_len q (A ++ (7, v) :: B)), (v_change x.1 x.2.2.1 (v_dC x.2.2.1 x.2.2.2.1 (nI A.length) (nI u))).2.1, (v_change x.1 x.2.2.1 (v_dC x.2.2.1 x.2.2.2.1 (nI A.length) (nI u))).2.2, v_dC x.2.2.1 x.2.2.2.1 (nI A.length) (nI u)) := by
    rw [e0, v_ent3, if_pos r2]
  rcases s_chg (dd := x.2.2.1) (ee := v_dC x.2.2.1 x.2.2.2.1 (nI A.length) (nI u)) hw with ⟨w', d1, d2⟩ | ⟨w', d1, d2⟩
  · exact Or.inl ⟨w', v_dC x.2.2.1 x.2.2.2.1 (nI A.length) (nI u), by rw [e1, d1]; rfl, d2⟩
  refine Or.inr ⟨w', d_take x.2.2.1 (v_dC x.2.2.1 x.2.2.2.1 (nI A.length) (nI u)), v_dC x.2.2.1 x.2.2.2.1 (nI A.length) (nI u), t_len q (A ++ (7, v) :: B), s_len48 hL.1 q, hL.2.2 q h1 h2, by rw [e1, d1]; rfl, d2, hsq, hle, t_cat [] (s_R A B q u v), s_M_L (s_R_M hL h1 h2 u1 u2) r1, s_C_cat (s_R_C hL hC h1 h2 u1 u2 hc), t_dl_take hR, ?_⟩
  rw [s_fs_cat, t_fs_app, t_fs_app, t_em_fs, t_em_fs]
  simp only [t_fs, t_fs_z, List.cons_append, List.nil_append, if_neg (show ¬ q = 0 by omega), List.mem_append, List.mem_cons]
  rintro (g | g | g)
  · obtain ⟨-, k, hk⟩ := t_fs_mem.mp (List.mem_filter.mp g).1
    exact hno.1 _ hk rfl
  · omega
  · obtain ⟨-, k, hk⟩ := t_fs_mem.mp (List.mem_filter.mp g).1
    exact hno.2 _ hk rfl
/-! store -/
theorem s_stC {f : zA} {x : zV} {q v : Nat} {val : Int32} (hT : s_T f q v val v x) (h1 : 1 ≤ q) (h2 : q ≤ 6) {u : Nat} (u1 : 1 ≤ u) (u2 : u ≤ v) : (l_stC x f 0 val (nI v) (nI u) q).1 = true ∧ s_Ok (l_stC x f 0 val (nI v) (nI u) q).2.1 (l_stC x f 0 val (nI v) (nI u) q).2.2 := by
  have hv : v ≤ 48 := by
    obtain ⟨-, -, -, A, B, hL, -⟩ := hT
    have := t_wf_b hL.1
    omega
  rcases s_close hT h1 h2 u1 u2 with ⟨ee', e⟩ | ⟨w', ee', e, hw'⟩ | ⟨w', dd', ee', o, o1, o2, e, hO⟩
  · have hT2 : s_T f q v val v (l_S x (x.1, x.2.2.1, ee')) := hT
    obtain ⟨p1, p2⟩ := s_purged hT2
    have hr : l_stC x f 0 val (nI v) (nI u) q = (true, f, (l_purged (l_S x (x.1, x.2.2.1, ee')) 0 (nI v)).2) := by
      rw [l_stC, e]
      simp only [show e_map [(1, -2), (4, -3), (2, -4), (3, -5)] 3 0 = -5 from rfl]
      rw [if_pos (show (-5 : Int32) < 0 by decide), if_neg (show ¬ (-5 : Int32) = -1 by decide), l_stP, if_pos rfl, p1]
      rfl
    rw [hr]
    exact ⟨rfl, p2⟩
  · have hr : l_stC x f 0 val (nI v) (nI u) q = (true, f, l_S x (w', x.2.2.1, ee')) := by
      rw [l_stC, e]
      simp only [s_e0, hw', if_true]
      rw [if_pos (show (-1 : Int32) < 0 by decide)]
    rw [hr]
    exact ⟨rfl, Or.inr (s_T_Off hT hw' ee')⟩
  · have hg : nI v - nI u + f q = nI (v - u + o) := by rw [o2, z_mi (i := v) (j := u) rfl rfl u2, nI_add]
    have hG : e_map [(1, -2), (4, -3), (2, -4), (3, -5)] (l_cl x 0 (nI u)).1 (l_cl x 0 (nI u)).2.1 = nI (v - u + o) := by rw [e]; rfl
    have hr : l_stC x f 0 val (nI v) (nI u) q = (true, s_fc f q u val, l_S x (w', dd', ee')) := by
      rw [l_stC, if_neg (by rw [hG]; exact nI_pos (n := v - u + o) (by omega)), if_pos (by rw [hG, hg]), e]
    rw [hr]
    exact ⟨rfl, Or.inl hO⟩
theorem s_stF {f : zA} {q v u : Nat} {val : Int32} (h1 : 1 ≤ q) (h2 : q ≤ 6) (u1 : 1 ≤ u) (u2 : u ≤ v) : ∀ (r j : Nat) (x : zV), j + r = v → s_T f q v val j x →
    (l_stF f 0 val (nI v) (nI u) q r (nI j) x).1 = true ∧ s_Ok (l_stF f 0 val (nI v) (nI u) q r (nI j) x).2.1 (l_stF f 0 val (nI v) (nI u) q r (nI j) x).2.2
  | 0, j, x, hj, hT => by
    rw [l_stF]
    have : j = v := by omega
    subst this
    exact s_stC hT h1 h2 u1 u2
  | r + 1, j, x, hj, hT => by
    rcases s_put hT (by omega) with ⟨w', e, hw'⟩ | ⟨w', ca', e, hT'⟩
    · have hr : l_stF f 0 val (nI v) (nI u) q (r + 1) (nI j) x = (true, f, (w', x.2.1, x.2.2)) := by
        rw [l_stF, e]
        simp only [s_e0, hw', if_true]
        rw [if_neg (show ¬ (0 : Int32) ≤ -1 by decide)]
      rw [hr]
      exact ⟨rfl, Or.inr (s_T_Off hT hw' x.2.2.2.1)⟩
    · have hr : l_stF f 0 val (nI v) (nI u) q (r + 1) (nI j) x = l_stF f 0 val (nI v) (nI u) q r (nI (j + 1)) (w', ca', x.2.2) := by
        rw [l_stF, e]
        simp only [s_e0]
        rw [if_pos (show (0 : Int32) ≤ 0 by decide), nI_succ]
      rw [hr]
      exact s_stF h1 h2 u1 u2 r (j + 1) _ (by omega) hT'
theorem s_On_eq {f f' : zA} {x : zV} (h : s_eq f f') (hx : s_On f x) : s_On f' x := by
  obtain ⟨hw, hsq, hle, L, hL, hC, hd, h7⟩ := hx
  exact ⟨hw, hsq, hle, L, s_L_eq h hL, s_C_eq h hC, hd, h7⟩
theorem s_store {f : zA} {x : zV} (hx : s_On f x) {q v u : Nat} (h1 : 1 ≤ q) (h2 : q ≤ 6) (k1 : 1 ≤ v) (k2 : v ≤ 9) (u1 : 1 ≤ u) (u2 : u ≤ v) :
    (l_store x f (nI q) (nI v) (nI u) q v).1 = true ∧ s_Ok (l_store x f (nI q) (nI v) (nI u) q v).2.1 (l_store x f (nI q) (nI v) (nI u) q v).2.2 := by
  have hx1 : s_On (l_f1 f q) x := s_On_eq (fun i hi => t_upd_n (by omega)) hx
  obtain ⟨val, hval⟩ : ∃ val, val = l_val f (nI q) q := ⟨_, rfl⟩
  rcases s_enter hx1 h1 h2 k1 k2 val with ⟨ee', e, hc⟩ | ⟨w', ee', e, hw'⟩ | ⟨w', dd', ee', e, hT⟩
  · have hr : l_store x f (nI q) (nI v) (nI u) q v = (true, l_f1 f q, l_S x (x.1, x.2.2.1, ee')) := by
      rw [l_store, e]
      simp only [show e_map [(1, -2), (2, -3), (3, -4)] 3 0 = -4 from rfl]
      rw [if_neg (show ¬ (0 : Int32) ≤ -4 by decide), l_stE, if_pos rfl]
      rcases hc with ⟨c1, c2⟩ | c1
      · simp only [c1, s_e0]
        rw [if_pos c2]
      · simp only [c1, s_e0, if_true, ite_self]
    rw [hr]
    exact ⟨rfl, Or.inl hx1⟩
  · have hG : e_map [(1, -2), (2, -3), (3, -4)] (l_en x (nI q) (nI v)).1 (l_en x (nI q) (nI v)).2.1 = -1 := by rw [e]; rfl
    have hr : l_store x f (nI q) (nI v) (nI u) q v = (true, l_f1 f q, l_S x (w', x.2.2.1, ee')) := by
      rw [l_store, if_neg (by rw [hG]; decide), l_stE, if_neg (by rw [hG]; decide), if_pos hG, e, if_pos hw']
    rw [hr]
    exact ⟨rfl, Or.inr (s_Off_same hx1 hw' ee')⟩
  · have hG : e_map [(1, -2), (2, -3), (3, -4)] (l_en x (nI q) (nI v)).1 (l_en x (nI q) (nI v)).2.1 = 0 := by rw [e]; rfl
    have hr : l_store x f (nI q) (nI v) (nI u) q v = l_stF (l_f1 f q) 0 val (nI v) (nI u) q v (nI 0) (l_S x (w', dd', ee')) := by
      rw [l_store, if_pos (by rw [hG]; decide), hG, hval, e]; rfl
    rw [hr]
    exact s_stF h1 h2 u1 u2 v 0 _ (by omega) hT
