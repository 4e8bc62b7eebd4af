/-! THEORY: squeeze and mount -/
def t_on (w : zP) : Prop := w.1 = true ∧ w.2.1 = -1
theorem t_on_w {w : zP} (h : t_on w) : (pw_write w).1 = true ∧ t_on (pw_write w).2 := by
  obtain ⟨up, left, cnt⟩ := w
  obtain ⟨h1, h2⟩ := h
  simp only at h1 h2
  subst h1 h2
  have e1 : ¬ (-1 : Int32) = 0 := by decide
  have e2 : (-1 : Int32) ≤ 0 := by decide
  simp only [pw_write, if_neg e1, if_pos e2, Bool.true_eq_false, if_false]
  exact ⟨trivial, rfl, rfl⟩
theorem t_on_ws : ∀ (k : Nat) (w : zP), t_on w → (v_writes k w).1 = true ∧ t_on (v_writes k w).2
  | 0, w, h => ⟨rfl, h⟩
  | k + 1, w, h => by
    obtain ⟨h1, h2⟩ := t_on_w h
    rw [v_writes, if_neg (by rw [h1]; decide)]
    exact t_on_ws k _ h2
theorem t_on_ch {w : zP} {dd ee : zD} (h : t_on w) : (v_change w dd ee).1 = true ∧ t_on (v_change w dd ee).2.1 := by
  obtain ⟨h1, h2⟩ := t_on_ws (v_n ee).toNatClampNeg w h
  rw [v_change, if_neg (by rw [h1]; decide)]
  exact ⟨rfl, h2⟩
theorem t_on_cp {to fr grp : Int32} : ∀ (n : Nat) (i cov : Int32) (t : zT), t_on t.1 → (v_cpF to fr grp n i cov t).1 = true ∧ t_on (v_cpF to fr grp n i cov t).2.1
  | 0, _, _, _, h => ⟨rfl, h⟩
  | n + 1, i, cov, t, h => by
    have hB : ∀ (t : zT), t_on t.1 → (v_cpB t to fr i).1 = true ∧ t_on (v_cpB t to fr i).2.1 := by
      intro t h
      obtain ⟨h1, h2⟩ := t_on_w h
      simp only [v_cpB, v_wb]
      rw [if_neg (by rw [h1]; decide)]
      exact ⟨rfl, h2⟩
    have hL : (v_cpL t i).1 = true ∧ t_on (v_cpL t i).2.1 := by
      obtain ⟨h1, h2⟩ := t_on_w h
      simp only [v_cpL, v_wl]
      rw [if_neg (by rw [h1]; decide)]
      exact ⟨rfl, h2⟩
    rw [v_cpF]
    by_cases hc : cov = 0
    · obtain ⟨b1, b2⟩ := hB ((v_cpL t i).2.1, t.2.1, (v_cpL t i).2.2) hL.2
      rw [if_pos hc, if_neg (by rw [hL.1]; decide), if_neg (by rw [b1]; decide)]
      exact t_on_cp n _ _ _ b2
    · obtain ⟨b1, b2⟩ := hB t h
      rw [if_neg hc, if_neg (by rw [b1]; decide)]
      exact t_on_cp n _ _ _ b2
theorem t_on_mv {v : zV} {g : Int32} (h : t_on v.1) : (v_mv v g).1 = true ∧ t_on (v_mv v g).2.1 := by
  obtain ⟨h1, h2⟩ : (v_cp v.1 v.2.1 v.2.2.1 v.2.2.2.2.1 v.2.2.2.2.2 g).1 = true ∧ t_on (v_cp v.1 v.2.1 v.2.2.1 v.2.2.2.2.1 v.2.2.2.2.2 g).2.1 := t_on_cp _ _ _ (v.1, v.2.1, v.2.2.2.2.1, v.2.2.2.2.2) h
  obtain ⟨h3, h4⟩ := t_on_ch (dd := v.2.2.1) (ee := v_dM v.2.2.1 v.2.2.2.1 g) h2
  rw [v_mv, if_neg (by rw [h1]; decide), if_neg (by rw [h3]; decide)]
  exact ⟨rfl, h4⟩
theorem t_on_ma : ∀ (n : Nat) (cp : Int32) (v : zV), t_on v.1 → t_on (v_maF n cp v).2.1
  | 0, _, _, h => h
  | n + 1, cp, v, h => by
    obtain ⟨h1, h2⟩ := t_on_mv (g := v_gap v) h
    rw [v_maF]
    by_cases hg : v_gap v = -1
    · rw [if_pos hg]; exact h
    · rw [if_neg hg, if_neg (by rw [h1]; decide)]
      exact t_on_ma n _ _ h2
abbrev t_RR (v : zV) (t : zG) (ki na ha : zA) : Prop := t_R v.1 v.2.1 v.2.2.1 v.2.2.2.2.1 v.2.2.2.2.2 t.1 t.2.1 t.2.2.1 t.2.2.2.1 t.2.2.2.2.2.1 ki na ha t.2.2.2.2.2.2.2.1 t.2.2.2.2.2.2.2.2.1 t.2.2.2.2.2.2.2.2.2
section TQ
variable {w : zP} {ca : zA} {dd ee : zD} {sq : Bool} {le : Int32} {qq : zQ} {mo : Bool} {gr : Int32} {ints ow nx ki na ha : zA} {mv fr sh cp : Int32} {L : tL}
theorem t_mu15 (h : t_I dd ow ki na ha L) : t_mu L ≤ 15 := by
  have h1 := t_mu_le L
  have h2 := h.1.2.2.2.2
  omega
theorem t_squeeze (hR : t_R w ca dd sq le qq mo gr ints ow ki na ha mv fr sh) :
    (qq.1 = true → m_many ki 1 16 ≤ 0 → m_maOK true 17 (qq, mo, gr, ints, 0, ow, nx, mv, fr, sh)) ∧
    k_map [1] (v_squeeze (w, ca, dd, ee, sq, le)).1 = (m_squeeze (qq, mo, gr, ints, cp, ow, nx, mv, fr, sh) ki).2.1 ∧ ((v_squeeze (w, ca, dd, ee, sq, le)).1 = 0 → (v_squeeze (w, ca, dd, ee, sq, le)).2.1 = (m_squeeze (qq, mo, gr, ints, cp, ow, nx, mv, fr, sh) ki).1) ∧
    t_RR (v_squeeze (w, ca, dd, ee, sq, le)).2.2 (m_squeeze (qq, mo, gr, ints, cp, ow, nx, mv, fr, sh) ki).2.2 ki na ha := by
  obtain ⟨rfl, hi, L, hI, hm⟩ := hR
  obtain ⟨up, left, cnt⟩ := w
  cases up with
  | false => exact ⟨fun h => (by cases h), rfl, fun h => (by cases h), rfl, hi, L, hI, hm⟩
  | true =>
    obtain ⟨rfl, rfl⟩ := t_mid_on hm rfl
    have hc := t_many hI (q := 1) (Or.inl rfl)
    obtain ⟨o1, w', ca', dd', ee', sq', mo', le', gr', ints', cv', cp', ow', nx', mv', fr', sh', L', k1, k0, k2, k3⟩ := t_mall (wi := true) (ki := ki) (na := na) (ha := ha) 15 16 17 L (true, left, cnt) ca dd ee sq gr ints 0 0 ow nx mv fr sh (t_mu15 hI) (by omega) (by omega) hI hi rfl (Or.inl rfl)
    refine ⟨fun _ _ => o1, ?_⟩
    simp only [v_squeeze, v_pw, m_squeeze, Bool.true_eq_false, if_false, if_true, hc]
    by_cases ht : m_many ki 1 16 ≤ 0
    case neg =>
      simp only [if_neg ht]
      exact ⟨rfl, fun h => (by cases h), rfl, hi, L, hI, hm⟩
    simp only [if_pos ht, v_ma, m_cp0, m_sqA]
    rcases k3 with ⟨q1, q2, q3, q4⟩ | ⟨q1, q2, q3⟩
    · simp only at q2 q3
      rw [q2, q3]
      simp only [if_true]
      refine ⟨rfl, fun _ => (by first | rfl | trivial), ?_, k1, L', k2, q4⟩
      cases sq' <;> rfl
    · simp only at q2 q3
      rw [q2, q3]
      simp only [Bool.true_eq_false, if_false]
      refine ⟨rfl, fun _ => k0 rfl, ?_, k1, L', k2, Or.inl ⟨rfl, rfl⟩⟩
      cases sq' <;> rfl
/-- the entries without the tentative ones -/
theorem t_dWF {κ : tK} (hκ : t_ok κ) (hI : t_I dd ow ki na ha L) (hk : ∀ p ∈ L, ¬ (p.1 ≠ 0 ∧ ki p.1 = 1) → t_k ki na ha p.1 = κ p.1) : ∀ (M A X : tL) (d : zD), L = A ++ M → t_dl d κ X → X.length + M.length ≤ 17 → t_dl (v_dWF dd M.length (nI A.length) d) κ (t_cat X (M.map (t_em (fun i => decide (ki i = 1)))))
  | [], _, _, _, _, h, _ => h
  | (i, n) :: M, A, X, d, e, h, hx => by
    have hI2 := hI
    rw [e] at hI2
    obtain ⟨a1, a2, a3, a4⟩ := t_dl_at hI2.2.2.1
    have hb := t_wf_b hI2.1
    have hmem : (i, n) ∈ L := by rw [e]; simp
    simp only [List.length_cons] at hx
    have hs : nI A.length + 1 = nI (A ++ [(i, n)]).length := by rw [← nI_succ]; simp
    rw [List.length_cons, v_dWF, List.map_cons, t_cat_cons, a1, a2, hs]
    have hl := t_add_n X (t_em (fun i => decide (ki i = 1)) (i, n))
    by_cases hc : i ≠ 0 ∧ ki i = 1
    · rw [t_k_1 hc.1 hc.2, if_pos rfl]
      refine t_dWF hκ hI hk M (A ++ [(i, n)]) _ _ (by rw [e]; simp) ?_ (by omega)
      have h1 : t_em (fun i => decide (ki i = 1)) (i, n) = (0, n) := by simp [t_em, hc.2]
      have h2 := t_dl_addE (n := n) h hκ (by omega) (by omega)
      rw [h1]
      simpa [t_z, show n ≠ 0 by omega] using h2
    · have h0 : ¬ (t_k ki na ha i).1 = 1 := by
        by_cases hi0 : i = 0
        · subst hi0; rw [t_k_0]; simp
        · rw [t_k_2 hi0 (fun h => hc ⟨hi0, h⟩)]; simp
      rw [if_neg h0]
      refine t_dWF hκ hI hk M (A ++ [(i, n)]) _ _ (by rw [e]; simp) ?_ (by omega)
      have h1 : t_em (fun i => decide (ki i = 1)) (i, n) = (i, n) := by
        by_cases hi0 : i = 0
        · subst hi0; unfold t_em; split <;> rfl
        · have h3 : ¬ ki i = 1 := fun h => hc ⟨hi0, h⟩
          simp [t_em, h3]
      rw [h1]
      exact t_dl_addR (A := A) (M := [(i, n)]) (B := M) hκ (by simpa using hI2.2.2.1) (fun p hp => hk p (by rw [e]; simp only [List.mem_singleton] at hp; rw [hp]; simp) (by simp only [List.mem_singleton] at hp; rw [hp]; exact hc)) h rfl (by simp) (by simp only [List.length_cons, List.length_nil]; omega)
theorem t_gaF {i t : Nat} (ht : t < 48) (hi : i ≤ 16) (ho : ow t = nI i) : ∀ j, j ≤ 16 → m_gaF ow ki nx j t = if 1 ≤ i ∧ i ≤ j ∧ ki i = 1 then 0 else nx t
  | 0, _ => by rw [m_gaF, if_neg (by omega)]
  | j + 1, hj => by
    have ih := t_gaF ht hi ho j (by omega)
    have hq : nI i = nI (j + 1) ↔ i = j + 1 := nI_eq (by omega) (by omega)
    rw [m_gaF]
    by_cases hk : ki (j + 1) = 1
    · rw [if_pos hk, m_gv, m_gvF, if_pos ht, if_neg (t_cnt0 (by omega)), ih, ho]
      by_cases h : i = j + 1
      · rw [if_pos (hq.mpr h), if_pos ⟨by omega, by omega, by rw [h]; exact hk⟩]
      · rw [if_neg (fun h2 => h (hq.mp h2))]
        by_cases h3 : 1 ≤ i ∧ i ≤ j ∧ ki i = 1
        · rw [if_pos h3, if_pos ⟨h3.1, by omega, h3.2.2⟩]
        · rw [if_neg h3, if_neg (fun h4 => h3 ⟨h4.1, by omega, h4.2.2⟩)]
    · rw [if_neg hk, ih]
      by_cases h3 : 1 ≤ i ∧ i ≤ j ∧ ki i = 1
      · rw [if_pos h3, if_pos ⟨h3.1, by omega, h3.2.2⟩]
      · rw [if_neg h3, if_neg (fun h4 => ?_)]
        have h5 : i ≠ j + 1 := fun h => hk (by rw [← h]; exact h4.2.2)
        exact h3 ⟨h4.1, by omega, h4.2.2⟩
/-- the last part of mount -/
theorem t_mt4 (hI : t_I dd ow ki na ha L) (hi : ∀ x, x < 48 → ca x = ints x) (hw : t_on w) :
    (v_mt2 (w, ca, dd, ee, false, -1)).1 = 0 ∧ (m_mt4 false ((w.1, w.2.1, w.2.2, false), false, gr, ints, cp, ow, nx, mv, fr, sh) ki).2.1 = 0 ∧
    (v_mt2 (w, ca, dd, ee, false, -1)).2.1 = (m_mt4 false ((w.1, w.2.1, w.2.2, false), false, gr, ints, cp, ow, nx, mv, fr, sh) ki).1 ∧
    t_RR (v_mt2 (w, ca, dd, ee, false, -1)).2.2 (m_mt4 false ((w.1, w.2.1, w.2.2, false), false, gr, ints, cp, ow, nx, mv, fr, sh) ki).2.2.2 (m_mt4 false ((w.1, w.2.1, w.2.2, false), false, gr, ints, cp, ow, nx, mv, fr, sh) ki).2.2.1 na ha := by
  have hc1 := t_many hI (q := 1) (Or.inl rfl)
  have hc2 := t_many hI (q := 2) (Or.inr rfl)
  simp only [v_mt2, m_mt4, hc1, hc2]
  by_cases ht : m_many ki 1 16 ≤ 0
  · simp only [if_pos ht]
    exact ⟨trivial, trivial, trivial, rfl, hi, L, hI, Or.inl ⟨rfl, rfl⟩⟩
  simp only [if_neg ht, m_ch4]
  have hkc : ∀ x, 1 ≤ x → x ≤ 16 → m_kcF ki 16 x = if ki x = 1 then 0 else ki x := fun x h1 h2 => by
    rw [m_kcF, if_pos ⟨h1, by omega⟩]
  have hd : t_dl (v_dW dd ee) (t_k (m_kcF ki 16) na ha) (t_cat [] (L.map (t_em (fun i => decide (ki i = 1))))) := by
    have h1 := t_dWF (κ := t_k (m_kcF ki 16) na ha) (t_k_ok _ _ _) hI (fun p hp hn => by
      by_cases hp0 : p.1 = 0
      · rw [hp0, t_k_0, t_k_0]
      · have h2 := t_I_id hI (i := p.1) (n := p.2) hp hp0
        have h3 : ¬ ki p.1 = 1 := fun h => hn ⟨hp0, h⟩
        simp only [t_k, hkc p.1 h2.1 h2.2.1, if_neg h3]) L [] [] (d_clear ee) rfl (t_dl_clear ee _) (by have := hI.1.2.2.2.2; simp only [List.length_nil]; omega)
    rw [v_dW, hI.2.2.1.1, nI_toInt (by have := hI.1.2.2.2.2; omega), show (((L.length : Nat) : Int) - (0 : Int32).toInt).toNat = L.length by have : (0 : Int32).toInt = 0 := rfl; omega]
    exact h1
  have hr : t_raw (L.map (t_em (fun i => decide (ki i = 1)))) := by
    refine ⟨by rw [t_em_sum]; exact hI.1.1, t_em_ok hI.1.2.1, ?_⟩
    rw [t_em_fs]
    exact hI.1.2.2.2.1.sublist List.filter_sublist
  have hx : ∀ t, t < 48 → m_gaF ow ki (m_cp nx ow) 16 t = nI (t_ex (L.map (t_em (fun i => decide (ki i = 1)))) t) := by
    intro t ht
    obtain ⟨C, i, m, D, e2, h3, h4⟩ := t_loc L t (by rw [hI.1.1]; exact ht)
    have h5 := hI.1.2.1 (i, m) (by rw [e2]; simp)
    simp only at h5
    have h6 : t_ex L t = i := by rw [e2, t_ex_at h3 h4]
    have h7 : ow t = nI i := by rw [hI.2.1 t ht, h6]
    rw [t_gaF (nx := m_cp nx ow) ht h5.2 h7 16 (Nat.le_refl _), t_cp_at ht, h7, t_em_ex, h6]
    simp only [decide_eq_true_eq]
    by_cases hi0 : i = 0
    · subst hi0
      rw [if_neg (by omega), ite_self]
    · by_cases hk : ki i = 1
      · rw [if_pos ⟨by omega, h5.2, hk⟩, if_pos hk]; rfl
      · rw [if_neg (fun h => hk h.2.2), if_neg hk]
  have hlen : (t_cat [] (L.map (t_em (fun i => decide (ki i = 1))))).length ≤ 16 := by
    have h1 := t_len0 (L.map (t_em (fun i => decide (ki i = 1))))
    have h2 := hI.1.2.2.2.2
    rw [List.length_map] at h1
    omega
  have hfl : t_fl (m_kcF ki 16) na ha (L.map (t_em (fun i => decide (ki i = 1)))) := by
    have hF := hI.2.2.2
    have h1 : ∀ x, 1 ≤ x → x ≤ 16 → ¬ m_kcF ki 16 x = 1 := by
      intro x h1 h2
      rw [hkc x h1 h2]
      by_cases h3 : ki x = 1
      · rw [if_pos h3]; decide
      · rw [if_neg h3]; exact h3
    refine ⟨fun x hx hx2 => ?_, fun x hx hx2 h3 => absurd h3 (h1 x hx hx2), fun x y hx hx2 hy hy2 h3 _ _ => absurd h3 (h1 x hx hx2), fun x y hx hx2 hy hy2 h3 h4 h5 => ?_⟩
    · have h2 := hF.1 x hx hx2
      rw [hkc x hx hx2, t_em_fs, List.mem_filter]
      by_cases h3 : ki x = 1
      · rw [if_pos h3]
        exact ⟨⟨fun h => by simp [h3] at h, fun h => absurd rfl h⟩, Or.inl rfl⟩
      · rw [if_neg h3]
        refine ⟨⟨fun h => h2.1.mp h.1, fun h => ⟨h2.1.mpr h, by simp [h3]⟩⟩, h2.2⟩
    · rw [hkc x hx hx2] at h3
      rw [hkc y hy hy2] at h4
      by_cases k3 : ki x = 1
      · rw [if_pos k3] at h3; exact absurd h3 (by decide)
      · by_cases k4 : ki y = 1
        · rw [if_pos k4] at h4; exact absurd h4 (by decide)
        · rw [if_neg k3] at h3; rw [if_neg k4] at h4; exact hF.2.2.2 x y hx hx2 hy hy2 h3 h4 h5
  obtain ⟨c1, c2, c3⟩ := t_chg (w := w) (dd := dd) (wi := false) (sq := false) (ow := ow) hw.1 (fun h => by cases h) hd (t_raw_nf hr) (t_raw_ow hx)
  have hch := (t_on_ch (dd := dd) (ee := v_dW dd ee) hw).1
  have hc : ¬ (v_change w dd (v_dW dd ee)).1 = false := by rw [hch]; decide
  rw [if_neg hc] at c1 c2
  have hI' := t_new (dd := dd) (ow := ow) hr hx hd hlen hfl
  have hc3 := t_many hI' (q := 2) (Or.inr rfl)
  simp only [m_nx4]
  rw [c1, c2]
  exact ⟨(by first | rfl | trivial), (by first | rfl | trivial), hc3, rfl, hi, _, hI', Or.inl ⟨rfl, rfl⟩⟩
theorem t_mount (hR : t_R w ca dd sq le qq mo gr ints ow ki na ha mv fr sh) :
    (qq.1 = false → mo = true → gr = nI gr.toNatClampNeg ∧ m_mok ow (mv, fr, sh) gr.toNatClampNeg) ∧
    (qq.1 = false → (m_mt2 false (m_mt1 (qq, mo, gr, ints, cp, ow, nx, mv, fr, sh))).1.2.2.2 = true → m_maOK false 17 (m_mt2 false (m_mt1 (qq, mo, gr, ints, cp, ow, nx, mv, fr, sh)))) ∧
    k_map [1] (v_mount (w, ca, dd, ee, sq, le)).1 = (m_mount false (qq, mo, gr, ints, cp, ow, nx, mv, fr, sh) ki).2.1 ∧ ((v_mount (w, ca, dd, ee, sq, le)).1 = 0 → (v_mount (w, ca, dd, ee, sq, le)).2.1 = (m_mount false (qq, mo, gr, ints, cp, ow, nx, mv, fr, sh) ki).1) ∧
    t_RR (v_mount (w, ca, dd, ee, sq, le)).2.2 (m_mount false (qq, mo, gr, ints, cp, ow, nx, mv, fr, sh) ki).2.2.2 (m_mount false (qq, mo, gr, ints, cp, ow, nx, mv, fr, sh) ki).2.2.1 na ha := by
  obtain ⟨rfl, hi, L, hI, hm⟩ := hR
  obtain ⟨up, left, cnt⟩ := w
  cases up with
  | true => exact ⟨fun h => (by cases h), fun h => (by cases h), rfl, fun h => (by cases h), rfl, hi, L, hI, hm⟩
  | false =>
    have hon : t_on (true, -1, cnt) := ⟨rfl, rfl⟩
    simp only [v_mount, m_mount, if_true, pw_come]
    have fin : ∀ (w' : zP) (ca' : zA) (dd' ee' : zD) (gr' : Int32) (ints' : zA) (cp' : Int32) (ow' nx' : zA) (mv' fr' sh' : Int32) (L' : tL) (v : zV) (t : zG), (∀ x, x < 48 → ca' x = ints' x) → t_I dd' ow' ki na ha L' → t_on w' →
        v = (w', ca', dd', ee', false, -1) → t = ((w'.1, w'.2.1, w'.2.2, false), false, gr', ints', cp', ow', nx', mv', fr', sh') →
        k_map [1] (v_mt2 v).1 = (m_mt4 false t ki).2.1 ∧ ((v_mt2 v).1 = 0 → (v_mt2 v).2.1 = (m_mt4 false t ki).1) ∧ t_RR (v_mt2 v).2.2 (m_mt4 false t ki).2.2.2 (m_mt4 false t ki).2.2.1 na ha := by
      intro w' ca' dd' ee' gr' ints' cp' ow' nx' mv' fr' sh' L' v t h1 h2 h3 h4 h5
      subst h4 h5
      obtain ⟨g1, g2, g3, g4⟩ := t_mt4 (ee := ee') (gr := gr') (cp := cp') (nx := nx') (mv := mv') (fr := fr') (sh := sh') h2 h1 h3
      exact ⟨by rw [g1, g2]; rfl, fun _ => g3, g4⟩
    rcases hm with ⟨rfl, rfl⟩ | ⟨rfl, rfl, -, A, z, f, m, B, g, e, hz, hf, rfl, rfl, rfl, rfl, rfl, hg⟩
    · have e2 : m_mt2 false (m_mt1 ((false, left, cnt, sq), false, gr, ints, cp, ow, nx, mv, fr, sh)) = ((true, -1, cnt, sq), false, gr, ints, cp, ow, nx, mv, fr, sh) := by
        rw [m_mt2_n rfl]; rfl
      simp only [e2]
      cases sq with
      | false =>
        refine ⟨fun _ h => (by cases h), fun _ h => (by cases h), ?_⟩
        rw [m_mt3_n rfl]
        exact fin (true, -1, cnt) ca dd ee gr ints cp ow nx mv fr sh L _ _ hi hI hon rfl rfl
      | true =>
        obtain ⟨o1, w', ca', dd', ee', sq', mo', le', gr', ints', cv', cp', ow', nx', mv', fr', sh', L', k1, k0, k2, k3⟩ := t_mall (wi := false) (ki := ki) (na := na) (ha := ha) 15 16 17 L (true, -1, cnt) ca dd ee true gr ints 0 cp ow nx mv fr sh (t_mu15 hI) (by omega) (by omega) hI hi rfl (Or.inr rfl)
        refine ⟨fun _ h => (by cases h), fun _ _ => o1, ?_⟩
        have hw := t_on_ma 16 0 ((true, -1, cnt), ca, dd, ee, true, -1) hon
        simp only at k3
        rcases k3 with ⟨q1, q2, q3, q4⟩ | ⟨q1, q2, q3⟩
        · rw [q2] at hw
          exact absurd hw.1 (by rw [q1]; decide)
        · rw [q2] at hw
          have e3 : m_mt3 false ((true, -1, cnt, true), false, gr, ints, cp, ow, nx, mv, fr, sh) = ((w'.1, w'.2.1, w'.2.2, sq'), false, gr', ints', cp', ow', nx', mv', fr', sh') := by
            rw [m_mt3, if_neg (show ¬ true = false by decide), q3]
          simp only [Bool.true_eq_false, if_false, e3, v_ma, q2]
          exact fin w' ca' dd' ee' gr' ints' cp' ow' nx' mv' fr' sh' L' _ _ k1 k2 hw rfl rfl
    · subst e
      obtain ⟨p1, p2⟩ := t_mok (g := g) hI hf (Nat.le_of_lt hg)
      have hb := t_wf_b hI.1
      have hb2 := t_wf_b (A := A ++ [(0, z)]) (i := f) (n := m) (B := B) (by have := hI.1; simpa using this)
      rw [t_sum_s] at hb2
      have hI2 : t_I dd ow ki na ha ((A ++ [(0, z)]) ++ (f, m) :: B) := by simpa using hI
      obtain ⟨-, a3, -, -⟩ := t_dl_at hI2.2.2.1
      have e1 : nI A.length + 1 = nI (A ++ [(0, z)]).length := by rw [← nI_succ]; simp
      rw [← e1] at a3
      have hgc : (nI g).toNatClampNeg = g := nI_clamp (by omega)
      obtain ⟨w1, ca1, dd1, ee1, sq1, mo1, le1, gr1, ints1, cp1, ow1, nx1, k1, k2, k3, k4⟩ := t_move (w := (true, -1, cnt)) (ee := ee) (nx := nx) (cp := cp) (gr := nI g) (told := 1) (g0 := g) (mo := true) (le := nI g) (sq := true) (wi := false) hI hf hi rfl (Or.inr rfl) (Or.inr ⟨rfl, rfl, hg, rfl, rfl, rfl⟩)
      have hmv := t_on_mv (v := ((true, -1, cnt), ca, dd, ee, true, nI g)) (g := nI A.length) hon
      rw [k2] at hmv
      obtain ⟨-, q2, q3, q4, q5, q6⟩ := k4.resolve_left (fun h => by have := hmv.1; rw [h.1] at this; cases this)
      subst q3 q4 q5
      have hw1 : w1.1 = true := hmv.1
      have e2 : m_mt2 false (m_mt1 ((false, left, cnt, true), true, nI g, ints, cp, ow, nx, nI f, nI (t_sum A + z), nI z)) = ((w1.1, w1.2.1, w1.2.2, true), false, gr1, ints1, cp1, ow1, nx1, nI f, nI (t_sum A + z), nI z) := by
        rw [m_mt2, if_neg (show ¬ true = false by decide)]
        simp only [m_mv0, m_mt1, m_pow, m_pk, hgc]
        rw [nI_clamp (by omega), nI_clamp (by omega), p2]
        simp only at k3
        rw [k3]
      have hmu := t_mu_mv (A := A) (B := B) (n := z) (m := m) hz hf
      have h15 := t_mu15 hI
      obtain ⟨o1, w', ca', dd', ee', sq', mo', le', gr', ints', cv', cp', ow', nx', mv', fr', sh', L', j1, -, j2, j3⟩ := t_mall (wi := false) (ki := ki) (na := na) (ha := ha) 14 15 17 _ w1 ca1 dd1 ee1 true gr1 ints1 (0 + nI m) cp1 ow1 nx1 (nI f) (nI (t_sum A + z)) (nI z) (by omega) (by omega) (by omega) q2 k1 hw1 (Or.inr rfl)
      simp only [e2]
      refine ⟨fun _ _ => ⟨by rw [hgc], by rw [hgc]; exact p1⟩, fun _ _ => o1, ?_⟩
      have hgap := t_gapx hI hz
      have hma : v_maF 16 0 ((true, -1, cnt), ca, dd, ee, true, nI g) = v_maF 15 (0 + nI m) (w1, ca1, dd1, ee1, true, -1) := by
        rw [v_maF]
        simp only [v_gap]
        rw [hgap, if_neg (t_neg1 (by omega)), k2, a3]
        simp only
        rw [if_neg (by rw [hw1]; decide)]
      have hw := t_on_ma 15 (0 + nI m) (w1, ca1, dd1, ee1, true, -1) hmv.2
      rcases j3 with ⟨q1, q2, q3, q4⟩ | ⟨q1, q2, q3⟩
      · rw [q2] at hw
        exact absurd hw.1 (by rw [q1]; decide)
      · rw [q2] at hw
        have e3 : m_mt3 false ((w1.1, w1.2.1, w1.2.2, true), false, gr1, ints1, cp1, ow1, nx1, nI f, nI (t_sum A + z), nI z) = ((w'.1, w'.2.1, w'.2.2, sq'), false, gr', ints', cp', ow', nx', mv', fr', sh') := by
          rw [m_mt3, if_neg (show ¬ true = false by decide), q3]
        simp only [Bool.true_eq_false, if_false, e3, v_ma, hma, q2]
        exact fin w' ca' dd' ee' gr' ints' cp' ow' nx' mv' fr' sh' L' _ _ j1 j2 hw rfl rfl
end TQ
