/-! THEORY of p19: blocks copied down, moves, squeeze -/
/-- up to g they lie where they shall, from g on where they were -/
def s_Q (F : Nat → Int32) (a n m : Nat) (ca : zA) (g : Nat) : Prop := (∀ i, i < g → ca (a + i) = F i) ∧ ∀ i, g ≤ i → i < m → ca (a + n + i) = F i
def s_led (F : Nat → Int32) (a n m G j c : Nat) (t : zT) : Prop := ∃ g, t.2.2.1 = true ∧ t.2.2.2 = nI g ∧ g ≤ j ∧ g < m ∧ j + c = g + G ∧ s_Q F a n m t.2.1 g
def s_cpi (F : Nat → Int32) (a n m G j c : Nat) (t : zT) : Prop := s_Q F a n m t.2.1 j ∧ ((c = 0 ∧ j = 0 ∧ t.2.2.2 = -1) ∨ s_led F a n m G j c t)
def s_cpr (F : Nat → Int32) (a n m : Nat) (t : zT) (r : Bool × zT) : Prop := (∀ z, z < a ∨ a + n + m ≤ z → r.2.2.1 z = t.2.1 z) ∧
  ((r.1 = true ∧ r.2.1.1 = true ∧ s_Q F a n m r.2.2.1 m ∧ r.2.2.2.1 = true ∧ ∃ g, g < m ∧ r.2.2.2.2 = nI g ∧ s_Q F a n m r.2.2.1 g) ∨
   (r.1 = false ∧ r.2.1.1 = false ∧ ((t.2.2.2 = -1 ∧ r.2.2.1 = t.2.1 ∧ r.2.2.2.1 = t.2.2.1 ∧ r.2.2.2.2 = -1) ∨ (r.2.2.2.1 = true ∧ ∃ g, g < m ∧ r.2.2.2.2 = nI g ∧ s_Q F a n m r.2.2.1 g))))
theorem t_led {to fr grp i : Int32} {n : Nat} {t : zT} (hg : ¬ grp = 0) : v_cpF to fr grp (n + 1) i 0 t = if (v_cpL t i).1 = false then (false, (v_cpL t i).2.1, t.2.1, (v_cpL t i).2.2) else v_cpF to fr grp (n + 1) i grp ((v_cpL t i).2.1, t.2.1, (v_cpL t i).2.2) := by
  rw [v_cpF, if_pos rfl, v_cpF, if_neg hg]
theorem s_cb {a n m j : Nat} (hs : a + n + m ≤ 48) (hj : j < m) {t : zT} (hw : t.1.1 = true) :
    (∃ w' : zP, v_cpB t (nI a) (nI (a + n)) (nI j) = (false, w', t.2.1) ∧ w'.1 = false) ∨ (∃ w' : zP, v_cpB t (nI a) (nI (a + n)) (nI j) = (true, w', upd t.2.1 (a + j) (t.2.1 (a + n + j))) ∧ w'.1 = true) := by
  have hp := s_w hw
  have e : v_cpB t (nI a) (nI (a + n)) (nI j) = v_wb t.1 t.2.1 (nI (a + j)) (t.2.1 (a + n + j)) := by
    simp only [v_cpB]
    rw [nI_add, t_r48 (n := m) (by omega) hj]
  rw [e, v_wb]
  by_cases h : (pw_write t.1).1 = false
  · exact Or.inl ⟨(pw_write t.1).2, by rw [if_pos h], by rw [hp, h]⟩
  · have h2 : (pw_write t.1).1 = true := by simpa using h
    exact Or.inr ⟨(pw_write t.1).2, by rw [if_neg h, r_set_n _ _ (by omega) (by decide)], by rw [hp, h2]⟩
theorem s_cl {t : zT} (i : Int32) (hw : t.1.1 = true) : (∃ w' : zP, v_cpL t i = (false, w', t.2.2) ∧ w'.1 = false) ∨ (∃ w' : zP, v_cpL t i = (true, w', true, i) ∧ w'.1 = true) := by
  have hp := s_w hw
  rw [v_cpL, v_wl]
  by_cases h : (pw_write t.1).1 = false
  · exact Or.inl ⟨(pw_write t.1).2, by rw [if_pos h], by rw [hp, h]⟩
  · have h2 : (pw_write t.1).1 = true := by simpa using h
    exact Or.inr ⟨(pw_write t.1).2, by rw [if_neg h], by rw [hp, h2]⟩
theorem s_Q_s {F : Nat → Int32} {a n m j : Nat} {ca : zA} (hn : 1 ≤ n) (hj : j < m) (h : s_Q F a n m ca j) : s_Q F a n m (upd ca (a + j) (ca (a + n + j))) (j + 1) := by
  refine ⟨fun i hi => ?_, fun i h1 h2 => ?_⟩
  · by_cases e : i = j
    · rw [e, t_upd_e]; exact h.2 j (Nat.le_refl _) hj
    · rw [t_upd_n (show a + i ≠ a + j by omega)]; exact h.1 i (by omega)
  · rw [t_upd_n (show a + n + i ≠ a + j by omega)]; exact h.2 i (by omega) h2
theorem s_Q_g {F : Nat → Int32} {a n m g j : Nat} {ca : zA} {v : Int32} (h1 : g ≤ j) (h2 : j < g + n) (h : s_Q F a n m ca g) : s_Q F a n m (upd ca (a + j) v) g := by
  refine ⟨fun i hi => ?_, fun i k1 k2 => ?_⟩
  · rw [t_upd_n (show a + i ≠ a + j by omega)]; exact h.1 i hi
  · rw [t_upd_n (show a + n + i ≠ a + j by omega)]; exact h.2 i k1 k2
theorem s_cp {F : Nat → Int32} {a n m G : Nat} (hn : 1 ≤ n) (hG : 1 ≤ G) (hGn : G ≤ n) (hm : 1 ≤ m) (hs : a + n + m ≤ 48) : ∀ (k j c : Nat) (t : zT), j + k = m → s_cpi F a n m G j c t → t.1.1 = true →
    s_cpr F a n m t (v_cpF (nI a) (nI (a + n)) (nI G) k (nI j) (nI c) t)
  | 0, j, c, t, hj, hi, hw => by
    rw [v_cpF]
    refine ⟨fun z _ => rfl, Or.inl ⟨rfl, hw, ?_, ?_⟩⟩
    · have hjm : j = m := by omega
      have h9 := hi.1
      rw [hjm] at h9; exact h9
    · rcases hi.2 with ⟨-, h, -⟩ | ⟨g, h1, h2, h3, h4, h5, h6⟩
      · omega
      · exact ⟨h1, g, h4, h2, h6⟩
  | k + 1, j, c, t, hj, hi, hw => by
    have blk : ∀ (c : Nat) (t : zT), 1 ≤ c → t.1.1 = true → s_Q F a n m t.2.1 j → s_led F a n m G j c t → s_cpr F a n m t (v_cpF (nI a) (nI (a + n)) (nI G) (k + 1) (nI j) (nI c) t) := by
      intro c t hc hw hq hl
      obtain ⟨g, h1, h2, h3, h4, h5, h6⟩ := hl
      rw [v_cpF, if_neg (nI_ne0 (n := c) (by omega) (by omega))]
      rcases s_cb hs (show j < m by omega) hw with ⟨w', e, hw'⟩ | ⟨w', e, hw'⟩
      · rw [e, if_pos rfl]
        exact ⟨fun z _ => rfl, Or.inr ⟨rfl, hw', Or.inr ⟨h1, g, h4, h2, h6⟩⟩⟩
      · rw [e, if_neg (show ¬ true = false by decide), show nI c - 1 = nI (c - 1) by rw [show c = (c - 1) + 1 by omega]; exact nI_pred _, ← nI_succ]
        have ih := s_cp (F := F) (a := a) hn hG hGn hm hs k (j + 1) (c - 1) (w', upd t.2.1 (a + j) (t.2.1 (a + n + j)), t.2.2) (by omega) ⟨s_Q_s hn (by omega) hq, Or.inr ⟨g, h1, h2, by omega, h4, by omega, s_Q_g h3 (by omega) h6⟩⟩ hw'
        refine ⟨fun z hz => ?_, ?_⟩
        · rw [ih.1 z hz]
          exact t_upd_n (by omega)
        · rcases ih.2 with r | ⟨r1, r2, ⟨r3, -⟩ | r3⟩
          · exact Or.inl r
          · exfalso
            exact t_neg1 (show g < 2 ^ 31 by omega) (h2.symm.trans r3)
          · exact Or.inr ⟨r1, r2, Or.inr r3⟩
    by_cases hc : c = 0
    · subst hc
      rw [show nI 0 = (0 : Int32) from rfl, t_led (nI_ne0 (n := G) (by omega) (by omega))]
      rcases s_cl (nI j) hw with ⟨w', e, hw'⟩ | ⟨w', e, hw'⟩
      · rw [e, if_pos rfl]
        refine ⟨fun z _ => rfl, Or.inr ⟨rfl, hw', ?_⟩⟩
        rcases hi.2 with ⟨-, -, h⟩ | ⟨g, h1, h2, h3, h4, h5, h6⟩
        · exact Or.inl ⟨h, rfl, rfl, h⟩
        · exact Or.inr ⟨h1, g, h4, h2, h6⟩
      · rw [e, if_neg (show ¬ true = false by decide)]
        have ih := blk G (w', t.2.1, true, nI j) hG hw' hi.1 ⟨j, rfl, rfl, Nat.le_refl _, by omega, rfl, hi.1⟩
        refine ⟨ih.1, ?_⟩
        rcases ih.2 with r | ⟨r1, r2, ⟨r3, -⟩ | r3⟩
        · exact Or.inl r
        · exact absurd r3 (t_neg1 (show j < 2 ^ 31 by omega))
        · exact Or.inr ⟨r1, r2, Or.inr r3⟩
    · refine blk c t (by omega) hw hi.1 ?_
      rcases hi.2 with ⟨h, -⟩ | h
      · exact absurd h hc
      · exact h
theorem s_dM {κ : tK} (hκ : t_ok κ) {dd ee : zD} {A B : tL} {n f m : Nat} (hw : t_wf (A ++ (0, n) :: (f, m) :: B)) (hd : t_dl dd κ (A ++ (0, n) :: (f, m) :: B)) : t_dl (v_dM dd ee (nI A.length)) κ (t_cat [] (A ++ ((f, m) :: (0, n) :: B))) := by
  have hb := t_wf_b hw
  simp only [List.length_cons] at hb
  have h1 : t_dl (d_addR (d_clear ee) dd 0 (nI A.length)) κ (t_cat [] A) :=
    t_dl_addR (A := []) (M := A) (B := (0, n) :: (f, m) :: B) hκ (by simpa using hd) (fun _ _ => rfl) (t_dl_clear ee _) rfl (by simp) (by simp; omega)
  have l1 := t_len0 A
  have e1 : nI A.length + 1 = nI (A ++ [(0, n)]).length := by rw [← nI_succ]; simp
  have e2 : nI A.length + 2 = nI (A.length + 2) := nI_add _ 2
  have h2 := t_dl_addR (A := A ++ [(0, n)]) (M := [(f, m)]) (B := B) (a := nI A.length + 1) (b := nI A.length + 2) hκ (by simpa using hd) (fun _ _ => rfl) h1 e1 (by rw [e2]; simp) (by simp; omega)
  have l2 := t_len0 (A ++ [(f, m)])
  rw [← t_cat_app] at l2
  simp only [List.length_append, List.length_cons, List.length_nil] at l2
  obtain ⟨-, a2, -, -⟩ := t_dl_at (A := A) (B := (f, m) :: B) hd
  have h3 := t_dl_addE (n := n) h2 hκ (by omega) (by omega)
  have l3 := t_len0 (A ++ [(f, m)] ++ t_z n)
  rw [← t_cat_app, ← t_cat_app] at l3
  have hz := t_z_n n
  simp only [List.length_append, List.length_cons, List.length_nil] at l3
  have h4 := t_dl_addR (A := A ++ [(0, n), (f, m)]) (M := B) (B := []) (a := nI A.length + 2) (b := dd.2.2.2.2) hκ (by simpa using hd) (fun _ _ => rfl) h3 (by rw [e2]; simp) (by rw [hd.1]; simp; congr 1; omega) (by omega)
  rw [t_cat_app, t_cat_app, t_cat_app] at h4
  have e3 : A ++ ([(f, m)] ++ (t_z n ++ B)) = A ++ ((f, m) :: (0, n) :: B) := by
    have hn : n ≠ 0 := by omega
    simp [t_z, hn]
  rw [v_dM, a2]
  rw [← e3]
  simpa using h4
/-- the files but one lie as the law knows -/
def s_oth (f ca : zA) (L : tL) (q : Nat) : Prop := ∀ x a k, 1 ≤ x → x ≤ 6 → x ≠ q → s_at L x a k → ∀ i, i < k → ca (a + i) = f (8 + x) + nI i
/-- where the moves stand, power on -/
def s_pre (f : zA) (A : tL) (n q m : Nat) (B : tL) (ca : zA) (sq : Bool) (le : Int32) : Prop :=
  (le = -1 ∧ s_C f ca (A ++ (0, n) :: (q, m) :: B)) ∨ (sq = true ∧ ∃ g, g < m ∧ le = nI g ∧ s_Q (fun i => f (8 + q) + nI i) (t_sum A) n m ca g ∧ s_oth f ca (A ++ (0, n) :: (q, m) :: B) q)
theorem s_outs {A B : tL} {n q m x a k i : Nat} (h : s_at (A ++ (0, n) :: (q, m) :: B) x a k) (hx : x ≠ 0) (hq : x ≠ q) (hi : i < k) : a + i < t_sum A ∨ t_sum A + n + m ≤ a + i := by
  have h1 := s_at_ex h hi
  rcases Nat.lt_or_ge (a + i) (t_sum A) with g | g
  · exact Or.inl g
  · rcases Nat.lt_or_ge (a + i) (t_sum A + n + m) with g2 | g2
    · exfalso
      rcases Nat.lt_or_ge (a + i) (t_sum A + n) with g3 | g3
      · rw [t_ex_at g g3] at h1; exact hx h1.symm
      · have h2 := t_ex_at (A := A ++ [(0, n)]) (B := B) (i := q) (n := m) (t := a + i) (by rw [t_sum_s]; omega) (by rw [t_sum_s]; omega)
        rw [List.append_assoc] at h2
        have h3 : t_ex (A ++ (0, n) :: (q, m) :: B) (a + i) = q := h2
        rw [h3] at h1; exact hq h1.symm
    · exact Or.inr g2
theorem s_move {f : zA} {x : zV} {A B : tL} {n q m : Nat} (hw : x.1.1 = true) (hL : s_L f (A ++ (0, n) :: (q, m) :: B)) (hd : t_dl x.2.2.1 (s_k 0 0) (A ++ (0, n) :: (q, m) :: B)) (h7 : ¬ 7 ∈ t_fs (A ++ (0, n) :: (q, m) :: B)) (hq : q ≠ 0) (hz : ∀ p ∈ A, p.1 ≠ 0)
    (hp : s_pre f A n q m B x.2.1 x.2.2.2.2.1 x.2.2.2.2.2) :
    (∃ x' : zV, v_mv x (nI A.length) = (false, x') ∧ s_Off f x') ∨
    (∃ x' : zV, v_mv x (nI A.length) = (true, x') ∧ x'.1.1 = true ∧ x'.2.2.2.2.2 = -1 ∧ ∃ L, s_L f L ∧ s_C f x'.2.1 L ∧ t_dl x'.2.2.1 (s_k 0 0) L ∧ ¬ 7 ∈ t_fs L) := by
  have hb := t_wf_b hL.1
  have hL2 : s_L f ((A ++ [(0, n)]) ++ (q, m) :: B) := by simpa using hL
  have hd2 : t_dl x.2.2.1 (s_k 0 0) ((A ++ [(0, n)]) ++ (q, m) :: B) := by simpa using hd
  have hb2 := t_wf_b hL2.1
  rw [t_sum_s] at hb2
  simp only [List.length_cons] at hb
  obtain ⟨-, a2, -, -⟩ := t_dl_at (A := A) (B := (q, m) :: B) hd
  obtain ⟨-, a3, -, -⟩ := t_dl_at hd2
  have e1 : nI A.length + 1 = nI (A ++ [(0, n)]).length := by rw [← nI_succ]; simp
  have b1 := t_beg (A := A) (B := (0, n) :: (q, m) :: B) hd
  have b2 := t_beg (A := A ++ [(0, n)]) (B := (q, m) :: B) hd2
  rw [← e1] at a3 b2
  rw [t_sum_s] at b2
  have hq7 : q ≠ 7 := fun e => h7 (t_fs_mem.mpr ⟨by decide, m, by rw [← e]; simp⟩)
  have hq6 : q ≤ 6 := by
    have := s_le7 hL (i := q) (n := m) (by simp)
    omega
  have hat : s_at (A ++ (0, n) :: (q, m) :: B) q (t_sum A + n) m := by
    have := s_at_mid (A ++ [(0, n)]) B q m
    rw [t_sum_s] at this
    simpa using this
  obtain ⟨F, hF⟩ : ∃ F : Nat → Int32, F = fun i => f (8 + q) + nI i := ⟨_, rfl⟩
  obtain ⟨G, hG⟩ : ∃ G, G = min 8 n := ⟨_, rfl⟩
  have hgrp : v_grp x.2.2.1 (nI A.length) = nI G := by
    rw [v_grp, a2, hG, show (8 : Int32) = nI 8 from rfl, t_min 8 n (by decide) (by omega)]
  -- what lies elsewhere, and the group where copying begins
  have ho : s_oth f x.2.1 (A ++ (0, n) :: (q, m) :: B) q := by
    rcases hp with ⟨-, hC⟩ | ⟨-, g, -, -, -, ho⟩
    · exact fun y a k k1 k2 k3 k4 => hC y a k k1 k2 k4
    · exact ho
  have hr : s_cpr F (t_sum A) n m (x.1, x.2.1, x.2.2.2.2.1, x.2.2.2.2.2) (v_cp x.1 x.2.1 x.2.2.1 x.2.2.2.2.1 x.2.2.2.2.2 (nI A.length)) := by
    rcases hp with ⟨hle, hC⟩ | ⟨hsq, g, hg, hle, hQ, -⟩
    · have e : v_cp x.1 x.2.1 x.2.2.1 x.2.2.2.2.1 x.2.2.2.2.2 (nI A.length) = v_cpF (nI (t_sum A)) (nI (t_sum A + n)) (nI G) m (nI 0) (nI 0) (x.1, x.2.1, x.2.2.2.2.1, x.2.2.2.2.2) := by
        rw [v_cp, v_cov, hgrp, a3, b1, b2, hle, if_pos rfl, show i_max 0 (-1) = nI 0 from rfl, nI_toInt (by omega), nI_toInt (by omega), show ((m : Int) - ((0 : Nat) : Int)).toNat = m by omega]
        rfl
      rw [e]
      refine s_cp hb.1 (by omega) (by omega) (by omega) (by omega) m 0 0 _ (by omega) ⟨⟨fun i hi => absurd hi (by omega), fun i _ hi => ?_⟩, Or.inl ⟨rfl, rfl, hle⟩⟩ hw
      rw [hF]
      exact hC q _ m (by omega) hq6 hat i hi
    · have e : v_cp x.1 x.2.1 x.2.2.1 x.2.2.2.2.1 x.2.2.2.2.2 (nI A.length) = v_cpF (nI (t_sum A)) (nI (t_sum A + n)) (nI G) (m - g) (nI g) (nI G) (x.1, x.2.1, x.2.2.2.2.1, x.2.2.2.2.2) := by
        rw [v_cp, v_cov, hgrp, a3, b1, b2, hle, if_neg (t_neg1 (show g < 2 ^ 31 by omega)), show i_max 0 (nI g) = nI g by rw [show (0 : Int32) = nI 0 from rfl, t_max 0 g (by decide) (by omega)] <;> (congr 1 <;> omega), nI_toInt (by omega), nI_toInt (by omega), show ((m : Int) - (g : Int)).toNat = m - g by omega]
      rw [e]
      rw [← hF] at hQ
      exact s_cp hb.1 (by omega) (by omega) (by omega) (by omega) (m - g) g G _ (by omega) ⟨hQ, Or.inr ⟨g, hsq, hle, Nat.le_refl _, hg, rfl, hQ⟩⟩ hw
  obtain ⟨r, hre⟩ : ∃ r, r = v_cp x.1 x.2.1 x.2.2.1 x.2.2.2.2.1 x.2.2.2.2.2 (nI A.length) := ⟨_, rfl⟩
  rw [← hre] at hr
  obtain ⟨hout, hr⟩ := hr
  have ho' : s_oth f r.2.2.1 (A ++ (0, n) :: (q, m) :: B) q := by
    intro y a k k1 k2 k3 k4 i hi
    rw [hout _ (s_outs k4 (by omega) k3 hi)]
    exact ho y a k k1 k2 k3 k4 i hi
  have hmid : ∀ g, g < m → s_Q F (t_sum A) n m r.2.2.1 g → s_mid f r.2.2.1 (nI g) (A ++ (0, n) :: (q, m) :: B) := by
    intro g hg hQ
    rw [hF] at hQ
    exact Or.inr ⟨A, n, q, m, B, g, rfl, hz, hq, hg, rfl, hQ.1, hQ.2, ho'⟩
  rw [v_mv, ← hre]
  rcases hr with ⟨r1, r2, r3, r4, g, r5, r6, r7⟩ | ⟨r1, r2, r3⟩
  · rw [if_neg (by rw [r1]; decide)]
    rcases s_chg (dd := x.2.2.1) (ee := v_dM x.2.2.1 x.2.2.2.1 (nI A.length)) r2 with ⟨w', c1, c2⟩ | ⟨w', c1, c2⟩
    · rw [c1]
      refine Or.inl ⟨_, if_pos rfl, c2, Or.inr ⟨r4, _, hL, ?_, hd, h7⟩⟩
      show s_mid f r.2.2.1 r.2.2.2.2 _
      rw [r6]; exact hmid g r5 r7
    · rw [c1]
      refine Or.inr ⟨_, if_neg (show ¬ true = false by decide), c2, rfl, t_cat [] (A ++ ((q, m) :: (0, n) :: B)), s_M_L ⟨t_raw_mv hL.1 hq, fun y hy => ?_, fun y k1 k2 => ?_⟩ ?_, ?_, t_dl_take (s_dM (s_k_ok 0 0) hL.1 hd), ?_⟩
      · refine hL.2.1 y ?_
        rw [t_fs_app] at hy ⊢
        simpa [t_fs, hq] using hy
      · rw [hL.2.2 y k1 k2, t_len_app, t_len_app]
        simp only [t_len]
        congr 1; omega
      · have l0 := t_len0 (A ++ ((q, m) :: (0, n) :: B))
        simp only [List.length_append, List.length_cons] at l0
        omega
      · refine s_C_cat (fun y a k k1 k2 k3 i hi => ?_)
        show r.2.2.1 (a + i) = f (8 + y) + nI i
        by_cases hy : y = q
        · subst hy
          have hM := t_raw_mv hL.1 hq
          obtain ⟨g1, g2⟩ := s_at_uq hq hM.2.2 k3 (s_at_mid A ((0, n) :: B) y m)
          rw [g1]
          have := r3.1 i (by omega)
          rw [hF] at this
          exact this
        · refine ho' y a k k1 k2 hy ?_ i hi
          rcases s_at_app.mp k3 with j1 | ⟨b, j1, j2⟩
          · exact s_at_app.mpr (Or.inl j1)
          · refine s_at_app.mpr (Or.inr ⟨b, j1, ?_⟩)
            rcases j2 with ⟨j3, -⟩ | ⟨c, j3, j4⟩
            · simp only [Prod.mk.injEq] at j3; exact absurd j3.1.symm hy
            · rcases j4 with ⟨j5, -⟩ | ⟨d, j5, j6⟩
              · simp only [Prod.mk.injEq] at j5; omega
              · simp only at j3 j5
                exact Or.inr ⟨m + d, by simp only; omega, Or.inr ⟨d, rfl, j6⟩⟩
      · rw [s_fs_cat]
        intro hy
        refine h7 ?_
        rw [t_fs_app] at hy ⊢
        simpa [t_fs, hq] using hy
  · rw [if_pos r1]
    refine Or.inl ⟨_, rfl, r2, ?_⟩
    rcases r3 with ⟨r4, r5, r6, r7⟩ | ⟨r4, g, r5, r6, r7⟩
    · rcases hp with ⟨hle, hC⟩ | ⟨hsq, g, hg, hle, hQ, -⟩
      · by_cases hs : x.2.2.2.2.1 = false
        · refine Or.inl ⟨r6.trans hs, r7, _, 0, 0, hL, ?_, hd⟩
          show s_C f r.2.2.1 _
          rw [r5]; exact hC
        · have hs2 : x.2.2.2.2.1 = true := by simpa using hs
          refine Or.inr ⟨r6.trans hs2, _, hL, Or.inl ⟨r7, ?_⟩, hd, h7⟩
          show s_C f r.2.2.1 _
          rw [r5]; exact hC
      · exact absurd (hle.symm.trans r4) (t_neg1 (show g < 2 ^ 31 by omega))
    · refine Or.inr ⟨r4, _, hL, ?_, hd, h7⟩
      show s_mid f r.2.2.1 r.2.2.2.2 _
      rw [r6]; exact hmid g r5 r7
/-- all moves -/
def s_maR (f : zA) (r : Int32 × zV) : Prop := (r.1 = -1 ∧ s_Off f r.2) ∨ (∃ c, c < 2 ^ 31 ∧ r.1 = nI c ∧ s_On f r.2)
theorem s_maF {f : zA} : ∀ (k c : Nat) (x : zV), c + 48 * k ≤ 100000 → x.1.1 = true → x.2.2.2.2.2 = -1 → (∃ L, s_L f L ∧ s_C f x.2.1 L ∧ t_dl x.2.2.1 (s_k 0 0) L ∧ ¬ 7 ∈ t_fs L) → s_maR f (v_maF k (nI c) x)
  | 0, c, x, hc, hw, hle, hg => by
    rw [v_maF]
    exact Or.inr ⟨c, by omega, rfl, hw, rfl, hle, hg⟩
  | k + 1, c, x, hc, hw, hle, ⟨L, hL, hC, hd, h7⟩ => by
    rw [v_maF]
    rcases t_gap (s_k_ok 0 0) hd hL.1.2.2.1 with ⟨h1, -⟩ | ⟨A, n, q, m, B, e, hq, hz, h1⟩
    · have h2 : v_gap x = -1 := h1
      rw [if_pos h2]
      exact Or.inr ⟨c, by omega, rfl, hw, rfl, hle, L, hL, hC, hd, h7⟩
    · have h2 : v_gap x = nI A.length := h1
      subst e
      have hb := t_wf_b hL.1
      have hd2 : t_dl x.2.2.1 (s_k 0 0) ((A ++ [(0, n)]) ++ (q, m) :: B) := by simpa using hd
      obtain ⟨-, a3, -, -⟩ := t_dl_at hd2
      have e1 : nI A.length + 1 = nI (A ++ [(0, n)]).length := by rw [← nI_succ]; simp
      rw [← e1] at a3
      have hm : m ≤ 48 := by simp only [t_sum] at hb; omega
      rw [h2, if_neg (t_neg1 (show A.length < 2 ^ 31 by omega)), a3, nI_add]
      rcases s_move hw hL hd h7 hq hz (Or.inl ⟨hle, hC⟩) with ⟨x', c1, c2⟩ | ⟨x', c1, c2, c3, c4⟩
      · rw [c1, if_pos rfl]
        exact Or.inl ⟨rfl, c2⟩
      · rw [c1, if_neg (show ¬ true = false by decide)]
        exact s_maF k (c + m) x' (by omega) c2 c3 c4
theorem s_ma {f : zA} {x : zV} (hw : x.1.1 = true) {L : tL} (hL : s_L f L) (hm : (x.2.2.2.2.2 = -1 ∧ s_C f x.2.1 L) ∨ (x.2.2.2.2.1 = true ∧ s_mid f x.2.1 x.2.2.2.2.2 L)) (hd : t_dl x.2.2.1 (s_k 0 0) L) (h7 : ¬ 7 ∈ t_fs L) : s_maR f (v_ma x) := by
  have key : (x.2.2.2.2.2 = -1 ∧ s_C f x.2.1 L) → s_maR f (v_ma x) := fun h => s_maF 16 0 x (by omega) hw h.1 ⟨L, hL, h.2, hd, h7⟩
  rcases hm with h | ⟨hsq, h | ⟨A, n, q, m, B, g, e, hz, hq, hg, hle, q1, q2, q3⟩⟩
  · exact key h
  · exact key h
  subst e
  have hb := t_wf_b hL.1
  have h2 : v_gap x = nI A.length := by
    rcases t_gap (s_k_ok 0 0) hd hL.1.2.2.1 with ⟨-, h | ⟨A', n', e, h⟩⟩ | ⟨A', n', q', m', B', e, -, h, h2⟩
    · exact absurd rfl (h (0, n) (by simp))
    · have h3 := t_zf A A' ((q, m) :: B) [] n n' hz h e
      simp at h3
    · have h3 := t_zf A A' _ _ n n' hz h e
      rw [v_gap, h2, h3.1]
  have hd2 : t_dl x.2.2.1 (s_k 0 0) ((A ++ [(0, n)]) ++ (q, m) :: B) := by simpa using hd
  obtain ⟨-, a3, -, -⟩ := t_dl_at hd2
  have e1 : nI A.length + 1 = nI (A ++ [(0, n)]).length := by rw [← nI_succ]; simp
  rw [← e1] at a3
  have hm : m ≤ 48 := by simp only [t_sum] at hb; omega
  rw [v_ma, v_maF, h2, if_neg (t_neg1 (show A.length < 2 ^ 31 by omega)), a3]
  rcases s_move hw hL hd h7 hq hz (Or.inr ⟨hsq, g, hg, hle, ⟨q1, q2⟩, q3⟩) with ⟨x', c1, c2⟩ | ⟨x', c1, c2, c3, c4⟩
  · rw [c1, if_pos rfl]
    exact Or.inl ⟨rfl, c2⟩
  · rw [c1, if_neg (show ¬ true = false by decide), show (0 : Int32) + nI m = nI (0 + m) from nI_add 0 m]
    exact s_maF 15 (0 + m) x' (by omega) c2 c3 c4
