/-! THEORY of p19: squeeze, mount, what the law looks at -/
theorem s_cn_no {nm h : Int32} {M : tL} (h7 : ¬ 7 ∈ t_fs M) : t_cn (s_k nm h) 1 M = 0 := by
  induction M with
  | nil => rfl
  | cons p r ih =>
    obtain ⟨i, n⟩ := p
    have h7r : ¬ 7 ∈ t_fs r := fun g => h7 (by
      simp only [t_fs]
      split
      · exact g
      · exact List.mem_cons_of_mem _ g)
    rw [t_cn, ih h7r]
    by_cases hi : i = 0
    · subst hi; rfl
    · have hi7 : i ≠ 7 := fun e => h7 (by simp only [t_fs, if_neg hi, e]; exact List.mem_cons_self)
      rw [s_k_q hi hi7]; rfl
theorem s_squeeze {f : zA} {x : zV} (hx : s_On f x) : (v_squeeze x).1 = 0 ∧ s_maR f (v_squeeze x).2 := by
  obtain ⟨hw, hsq, hle, L, hL, hC, hd, h7⟩ := hx
  have h1 := t_count hd 1
  rw [s_cn_no h7] at h1
  have e : v_squeeze x = (0, v_ma x) := by
    rw [v_squeeze, if_pos (s_pw hw), h1, if_pos (by decide)]
  rw [e]
  exact ⟨rfl, s_ma hw hL (Or.inl ⟨hle, hC⟩) hd h7⟩
/-- how many of the six have a block -/
def s_c1 (a : Nat) : Nat := if a = 0 then 0 else 1
theorem s_cn_f {f : zA} {M : tL} (hf : ∀ q, 1 ≤ q → q ≤ 6 → f q = nI (t_len q M)) (hl : ∀ q, t_len q M ≤ 48) : s_cn f 6 = nI (s_c1 (t_len 1 M) + s_c1 (t_len 2 M) + s_c1 (t_len 3 M) + s_c1 (t_len 4 M) + s_c1 (t_len 5 M) + s_c1 (t_len 6 M)) := by
  have step : ∀ j N, j < 6 → s_cn f j = nI N → s_cn f (j + 1) = nI (N + s_c1 (t_len (j + 1) M)) := by
    intro j N hj h
    rw [s_cn, h, hf (j + 1) (by omega) (by omega), s_c1]
    have h1 := hl (j + 1)
    by_cases h0 : t_len (j + 1) M = 0
    · rw [if_pos ((t_le0 (by omega)).mpr h0), if_pos h0]; exact Int32.add_zero _
    · rw [if_neg (fun g => h0 ((t_le0 (by omega)).mp g)), if_neg h0, nI_succ]
  have h1 := step 0 0 (by decide) rfl
  have h2 := step 1 _ (by decide) h1
  have h3 := step 2 _ (by decide) h2
  have h4 := step 3 _ (by decide) h3
  have h5 := step 4 _ (by decide) h4
  have h6 := step 5 _ (by decide) h5
  rw [h6]
  exact congrArg nI (by simp)
theorem s_cn_c {nm h : Int32} : ∀ (M : tL), (∀ p ∈ M, 1 ≤ p.2) → (t_fs M).Nodup → (∀ q ∈ t_fs M, q ≤ 7) →
    t_cn (s_k nm h) 2 M = s_c1 (t_len 1 M) + s_c1 (t_len 2 M) + s_c1 (t_len 3 M) + s_c1 (t_len 4 M) + s_c1 (t_len 5 M) + s_c1 (t_len 6 M)
  | [], _, _, _ => rfl
  | (i, n) :: r, h1, h2, h3 => by
    have hn := h1 (i, n) List.mem_cons_self
    simp only at hn
    have h2' : (t_fs r).Nodup := by
      simp only [t_fs] at h2
      split at h2
      · exact h2
      · exact (List.nodup_cons.mp h2).2
    have h3' : ∀ q ∈ t_fs r, q ≤ 7 := by
      intro q hq
      refine h3 q ?_
      simp only [t_fs]
      split
      · exact hq
      · exact List.mem_cons_of_mem _ hq
    have ih := s_cn_c (nm := nm) (h := h) r (fun p hp => h1 p (List.mem_cons_of_mem _ hp)) h2' h3'
    rw [t_cn, ih]
    by_cases hi : i = 0
    · subst hi
      simp [t_len, s_k]
    · have hi7 : i ≤ 7 := h3 i (by simp only [t_fs, if_neg hi]; exact List.mem_cons_self)
      have hno : t_len i r = 0 := by
        simp only [t_fs, if_neg hi] at h2
        have g := (List.nodup_cons.mp h2).1
        exact t_len_no (fun p hp e => g (t_fs_mem.mpr ⟨hi, p.2, by rw [← e]; exact hp⟩))
      have hn0 : n ≠ 0 := by omega
      have hc : i = 1 ∨ i = 2 ∨ i = 3 ∨ i = 4 ∨ i = 5 ∨ i = 6 ∨ i = 7 := by omega
      rcases hc with hc | hc | hc | hc | hc | hc | hc
      all_goals
        subst hc
        simp only [t_len, s_k, s_c1, hno, hn0] 
        simp [hno, hn0] <;> omega
theorem s_count2 {f : zA} {dd : zD} {L : tL} {nm h : Int32} (hL : s_L f L) (hd : t_dl dd (s_k nm h) L) : d_count dd.1 dd.2.2.2.2 2 = s_cn f 6 := by
  rw [t_count hd, s_cn_c L (fun p hp => (hL.1.2.1 p hp).1) hL.1.2.2.2.1 hL.2.1, s_cn_f hL.2.2 (s_len48 hL.1)]
theorem s_dWF {f : zA} {dd : zD} {L : tL} {nm h : Int32} (hL : s_L f L) (hd : t_dl dd (s_k nm h) L) : ∀ (M A X : tL) (d : zD), L = A ++ M → t_dl d (s_k 0 0) X → X.length + M.length ≤ 17 → t_dl (v_dWF dd M.length (nI A.length) d) (s_k 0 0) (t_cat X (M.map (t_em (fun i => decide (i = 7)))))
  | [], _, _, _, _, h, _ => h
  | (i, n) :: M, A, X, d, e, hX, hx => by
    have hL2 := hL
    have hd2 := hd
    rw [e] at hL2 hd2
    obtain ⟨a1, a2, a3, a4⟩ := t_dl_at hd2
    have hb := t_wf_b hL2.1
    simp only [List.length_cons] at hx
    have hs : nI A.length + 1 = nI (A ++ [(i, n)]).length := by rw [← nI_succ]; simp
    rw [List.length_cons, v_dWF, List.map_cons, t_cat_cons, a1, a2, hs]
    have hl := t_add_n X (t_em (fun i => decide (i = 7)) (i, n))
    by_cases hc : i = 7
    · subst hc
      rw [s_k_7, if_pos rfl]
      refine s_dWF hL hd M (A ++ [(7, n)]) _ _ (by rw [e]; simp) ?_ (by omega)
      have h1 : t_em (fun i => decide (i = 7)) (7, n) = (0, n) := by simp [t_em]
      have h2 := t_dl_addE (n := n) hX (s_k_ok 0 0) (by omega) (by omega)
      rw [h1]
      simpa [t_z, show n ≠ 0 by omega] using h2
    · have h0 : ¬ (s_k nm h i).1 = 1 := by
        by_cases hi0 : i = 0
        · subst hi0; rw [show s_k nm h 0 = (0, 0, -1) from rfl]; simp
        · rw [s_k_q hi0 hc]; simp
      rw [if_neg h0]
      refine s_dWF hL hd M (A ++ [(i, n)]) _ _ (by rw [e]; simp) ?_ (by omega)
      have h1 : t_em (fun i => decide (i = 7)) (i, n) = (i, n) := by simp [t_em, hc]
      rw [h1]
      exact t_dl_addR (A := A) (M := [(i, n)]) (B := M) (s_k_ok 0 0) (by simpa using hd2) (fun p hp => by simp only [List.mem_singleton] at hp; rw [hp]; exact s_k_n hc) hX rfl (by simp) (by simp only [List.length_cons, List.length_nil]; omega)
/-- the last part of mount -/
theorem s_mt2 {f : zA} {y : zV} (hw : t_on y.1) (hsq : y.2.2.2.2.1 = false) (hle : y.2.2.2.2.2 = -1) {L : tL} {nm h : Int32} (hL : s_L f L) (hC : s_C f y.2.1 L) (hd : t_dl y.2.2.1 (s_k nm h) L) : ∃ x' : zV, v_mt2 y = (0, s_cn f 6, x') ∧ s_On f x' := by
  by_cases hc : d_count y.2.2.1.1 y.2.2.1.2.2.2.2 1 ≤ 0
  · have h7 : ¬ 7 ∈ t_fs L := by
      intro h7
      obtain ⟨A, n, B, e⟩ := s_at_fs h7
      rw [t_count hd 1] at hc
      have hl := hd.2.1
      have h1 : ∀ M : tL, t_cn (s_k nm h) 1 M ≤ M.length := by
        intro M
        induction M with
        | nil => exact Nat.le_refl _
        | cons p r ih => rw [t_cn, List.length_cons]; split <;> omega
      have h2 := h1 L
      have h3 := (t_le0 (by omega)).mp hc
      rw [e, t_cn_app, t_cn, s_k_7, if_pos rfl] at h3
      omega
    exact ⟨y, by rw [v_mt2, if_pos hc, s_count2 hL hd], hw.1, hsq, hle, L, hL, hC, s_dl_n hd h7, h7⟩
  · have hD : t_dl (v_dW y.2.2.1 y.2.2.2.1) (s_k 0 0) (t_cat [] (L.map (t_em (fun i => decide (i = 7))))) := by
      have h1 := s_dWF hL hd L [] [] (d_clear y.2.2.2.1) rfl (t_dl_clear _ _) (by have := hL.1.2.2.2.2; simp only [List.length_nil]; omega)
      have hN : (y.2.2.1.2.2.2.2.toInt - (0 : Int32).toInt).toNat = L.length := by
        have h0 : (0 : Int32).toInt = 0 := rfl
        have := hL.1.2.2.2.2
        rw [hd.1, nI_toInt (by omega)]
        omega
      rw [v_dW, hN]
      exact h1
    obtain ⟨k1, k2⟩ := t_on_ch (dd := y.2.2.1) (ee := v_dW y.2.2.1 y.2.2.2.1) hw
    have hM : s_M f (L.map (t_em (fun i => decide (i = 7)))) := by
      refine ⟨⟨by rw [t_em_sum]; exact hL.1.1, t_em_ok hL.1.2.1, ?_⟩, fun q hq => ?_, fun q j1 j2 => ?_⟩
      · rw [t_em_fs]; exact hL.1.2.2.2.1.sublist List.filter_sublist
      · rw [t_em_fs] at hq; exact hL.2.1 q (List.mem_filter.mp hq).1
      · rw [s_em_len (by omega) (by omega)]; exact hL.2.2 q j1 j2
    have hlen : (t_cat [] (L.map (t_em (fun i => decide (i = 7))))).length ≤ 16 := by
      have l0 := t_len0 (L.map (t_em (fun i => decide (i = 7))))
      rw [List.length_map] at l0
      have := hL.1.2.2.2.2
      omega
    have hL' := s_M_L hM hlen
    have h7 : ¬ 7 ∈ t_fs (t_cat [] (L.map (t_em (fun i => decide (i = 7))))) := by
      rw [s_fs_cat, t_em_fs]
      intro g
      have := (List.mem_filter.mp g).2
      simp at this
    rcases s_chg (dd := y.2.2.1) (ee := v_dW y.2.2.1 y.2.2.2.1) hw.1 with ⟨w', c1, c2⟩ | ⟨w', c1, c2⟩
    · rw [c1] at k1; cases k1
    · have hd' := t_dl_take (dd := y.2.2.1) hD
      refine ⟨(w', y.2.1, d_take y.2.2.1 (v_dW y.2.2.1 y.2.2.2.1), v_dW y.2.2.1 y.2.2.2.1, y.2.2.2.2), ?_, c2, hsq, hle, _, hL', ?_, hd', h7⟩
      · rw [v_mt2, if_neg hc, c1]
        simp only
        rw [s_count2 hL' hd']
      · exact s_C_cat (s_C_sub hC (fun q a n j1 j2 j3 => s_em_at (by omega) j3))
theorem s_mount {f : zA} {x : zV} (hx : s_Off f x) : ∃ x' : zV, v_mount x = (0, s_cn f 6, x') ∧ s_On f x' := by
  obtain ⟨hw, hx⟩ := hx
  have hon : t_on (pw_come x.1) := ⟨rfl, rfl⟩
  rcases hx with ⟨hsq, hle, L, nm, h, hL, hC, hd⟩ | ⟨hsq, L, hL, hm, hd, h7⟩
  · obtain ⟨x', e, hO⟩ := s_mt2 (y := (pw_come x.1, x.2)) hon hsq hle hL hC hd
    exact ⟨x', by rw [v_mount, if_pos hw, if_pos hsq, e], hO⟩
  · have h1 := s_ma (x := (pw_come x.1, x.2)) hon.1 hL (Or.inr ⟨hsq, hm⟩) hd h7
    have h2 : t_on (v_ma (pw_come x.1, x.2)).2.1 := t_on_ma 16 0 (pw_come x.1, x.2) hon
    rcases h1 with ⟨-, g, -⟩ | ⟨c, -, -, g1, g2, g3, L', hL', hC', hd', h7'⟩
    · rw [h2.1] at g; cases g
    · obtain ⟨x', e, hO⟩ := s_mt2 h2 g2 g3 hL' hC' hd'
      exact ⟨x', by rw [v_mount, if_pos hw, if_neg (by rw [hsq]; decide), e], hO⟩
theorem s_mended {f : zA} {x : zV} (hx : s_Ok f x) : (l_mended x f).1 = true ∧ s_On f (l_mended x f).2 := by
  rcases hx with hx | hx
  · have e : l_mended x f = (true, x) := by rw [l_mended, if_neg (by rw [hx.1]; decide)]
    rw [e]; exact ⟨rfl, hx⟩
  · obtain ⟨x', e, hO⟩ := s_mount hx
    have e2 : l_mended x f = (true, x') := by
      rw [l_mended, if_pos hx.1, if_pos (by rw [e]; rfl), if_neg (by rw [e]; rw [show (0, s_cn f 6, x').2.2.1.1 = x'.1.1 from rfl, hO.1]; decide), e]
    rw [e2]; exact ⟨rfl, hO⟩
/-! same -/
theorem s_read {f : zA} {x : zV} (hx : s_On f x) {q : Nat} (h1 : 1 ≤ q) (h2 : q ≤ 6) :
    (f q = 0 ∧ ∀ b, v_read x.1 x.2.1 x.2.2.1 (nI q) b = (4, 0)) ∨
    ∃ n, 1 ≤ n ∧ n ≤ 48 ∧ f q = nI n ∧ (∀ b, b < n → v_read x.1 x.2.1 x.2.2.1 (nI q) (nI b) = (0, f (8 + q) + nI b)) ∧ v_read x.1 x.2.1 x.2.2.1 (nI q) (nI n) = (2, 0) := by
  obtain ⟨hw, hsq, hle, L, hL, hC, hd, h7⟩ := hx
  rcases s_perm hL hd h1 h2 with ⟨g1, g2⟩ | ⟨A, n, B, e, g1, g2, g3⟩
  · left
    refine ⟨by rw [hL.2.2 q h1 h2, g2]; rfl, fun b => ?_⟩
    simp only [v_read, s_pw hw, s_rp4 g1, if_true]
    rfl
  · right
    obtain ⟨b1, b2, b3, b4, b5, b6, b7⟩ := s_of hL hd e
    refine ⟨n, g3, by omega, by rw [hL.2.2 q h1 h2, g2], fun b hb => ?_, ?_⟩
    · have c1 : ¬ nI b < 0 := nI_pos (by omega)
      have c2 : nI b < nI n := nI_lt hb (by omega)
      simp only [v_read, s_pw hw, s_rp g1 b6, g1, v_rb, b1, b2, if_neg c1, if_pos c2, if_true]
      rw [t_r48 b4 hb, hC q (t_sum A) n h1 h2 (by rw [e]; exact s_at_mid A B q n) b hb]
    · have c1 : ¬ nI n < 0 := nI_pos (by omega)
      have c2 : ¬ nI n < nI n := fun h => by
        have := (nI_ltI (show n < 2 ^ 31 by omega) (show n < 2 ^ 31 by omega)).mp h
        omega
      simp only [v_read, s_pw hw, s_rp g1 b6, g1, v_rb, b1, if_neg c1, if_neg c2, if_true]
      rfl
theorem s_handle {f : zA} {x : zV} (hx : s_On f x) (q : Int32) : v_handle x.1 x.2.2.1 q = (0, -1) := by
  obtain ⟨hw, hsq, hle, L, hL, hC, hd, h7⟩ := hx
  rw [v_handle, if_pos (s_pw hw), d_hand]
  rcases z_find_0 (d_pH x.2.2.1.1 x.2.2.1.2.2.1 x.2.2.1.2.2.2.1 x.2.2.1.2.2.2.2 q) 4 with ⟨h1, -⟩ | ⟨j, -, -, h3, -⟩
  · rw [h1]
  · exfalso
    have h4 := s_tent0 hL hd h7 (nI j)
    simp only [v_T] at h4
    rw [d_pH, h4] at h3
    simp at h3
def s_sm (L : tL) : Nat → Nat
  | 0 => 0
  | j + 1 => s_sm L j + t_len (j + 1) L
theorem s_all : ∀ (M : tL), (∀ q ∈ t_fs M, q ≤ 7) → t_sum M = t_len 0 M + s_sm M 7
  | [], _ => rfl
  | (i, n) :: r, h => by
    have h' : ∀ q ∈ t_fs r, q ≤ 7 := by
      intro q hq
      refine h q ?_
      simp only [t_fs]
      split
      · exact hq
      · exact List.mem_cons_of_mem _ hq
    have ih := s_all r h'
    have hi : i ≤ 7 := by
      by_cases h0 : i = 0
      · omega
      · exact h i (by simp only [t_fs, if_neg h0]; exact List.mem_cons_self)
    simp only [s_sm] at ih ⊢
    rw [t_sum, ih]
    have hc : i = 0 ∨ i = 1 ∨ i = 2 ∨ i = 3 ∨ i = 4 ∨ i = 5 ∨ i = 6 ∨ i = 7 := by omega
    rcases hc with hc | hc | hc | hc | hc | hc | hc | hc
    all_goals
      subst hc
      simp [t_len] <;> omega
theorem s_smB {f : zA} {x : zV} {q n : Nat} {T : Bool} (hr : ∀ b, b < n → v_read x.1 x.2.1 x.2.2.1 (nI q) (nI b) = (0, f (8 + q) + nI b)) : ∀ (r b : Nat), b + r = n → l_smB x.1 x.2.1 x.2.2.1 f (nI q) q T r (nI b) = T
  | 0, b, _ => by rw [l_smB]
  | r + 1, b, hb => by
    rw [l_smB, if_pos (by rw [hr b (by omega)]; rfl), ← nI_succ]
    exact s_smB hr r (b + 1) (by omega)
theorem s_smS {f : zA} {x : zV} (hx : s_On f x) {q : Nat} (h1 : 1 ≤ q) (h2 : q ≤ 6) (T : Bool) : l_smB x.1 x.2.1 x.2.2.1 f (nI q) q (l_smK x.1 x.2.1 x.2.2.1 f (nI q) q T) (f q).toNatClampNeg 0 = T := by
  have hH : l_smH x.1 x.2.2.1 (nI q) T = T := by
    rw [l_smH, if_pos (by rw [s_handle hx]; rfl)]
  rcases s_read hx h1 h2 with ⟨g1, g2⟩ | ⟨n, n1, n2, g1, g2, g3⟩
  · rw [g1, show (0 : Int32).toNatClampNeg = 0 from rfl, l_smB, l_smK, g1, if_pos (by decide), if_pos (by rw [g2]; rfl), hH]
  · rw [g1, nI_clamp (by omega)]
    have h3 := s_smB (T := l_smK x.1 x.2.1 x.2.2.1 f (nI q) q T) g2 n 0 (by omega)
    rw [show nI 0 = (0 : Int32) from rfl] at h3
    rw [h3, l_smK, g1, if_neg (s_nle n1 n2), if_pos (by rw [g3]; rfl), hH]
theorem s_same {f : zA} {x : zV} (hx : s_On f x) : l_same x.1 x.2.1 x.2.2.1 f = true := by
  have hx0 := hx
  obtain ⟨hw, hsq, hle, L, hL, hC, hd, h7⟩ := hx
  have h70 : t_len 7 L = 0 := t_len_no (fun p hp e => h7 (t_fs_mem.mpr ⟨by decide, p.2, by rw [← e]; exact hp⟩))
  have hall := s_all L hL.2.1
  rw [hL.1.1, s_sm, h70] at hall
  have key : ∀ (k j : Nat) (a : Int32), j + k = 6 → a = nI (s_sm L j) → l_smF x.1 x.2.1 x.2.2.1 f k (nI (j + 1)) (j + 1) a = true := by
    intro k
    induction k with
    | zero =>
      intro j a hj ha
      have hj6 : j = 6 := by omega
      subst hj6
      have he : v_free x.1 x.2.2.1 0 = (0, nI (t_len 0 L)) := by
        rw [v_free, if_pos (s_pw hw), if_pos rfl, t_emp (s_k_ok 0 0) hd]
      have h48 : (48 : Int32) - nI (s_sm L 6) = nI (t_len 0 L) := by
        rw [show (48 : Int32) = nI 48 from rfl, z_mi (i := 48) (j := s_sm L 6) rfl rfl (by omega)]
        exact congrArg nI (by omega)
      rw [l_smF, if_pos (by rw [he, ha, h48]; rfl)]
    | succ k ih =>
      intro j a hj ha
      rw [l_smF, s_smS hx0 (by omega) (by omega), ← nI_succ]
      exact ih (j + 1) _ (by omega) (by rw [ha, hL.2.2 (j + 1) (by omega) (by omega), nI_add]; rfl)
  exact key 6 0 0 rfl rfl
theorem s_f48 {f : zA} {x : zV} (hx : s_On f x) : ∀ i : Nat, 1 ≤ i → i ≤ 6 → (f i).toNatClampNeg ≤ 48 := by
  obtain ⟨hw, hsq, hle, L, hL, hC, hd, h7⟩ := hx
  intro i h1 h2
  have h3 := s_len48 hL.1 i
  rw [hL.2.2 i h1 h2, nI_clamp (by omega)]
  exact h3
/-! the beginning, and power that is to fail -/
theorem s_On_cut {f : zA} {x : zV} (hx : s_On f x) (n : Int32) (hn : -1 ≤ n) : v_cut x.1 n = (0, pw_fail x.1 n) ∧ s_On f (pw_fail x.1 n, x.2) := by
  refine ⟨by rw [v_cut, if_pos (s_pw hx.1), if_pos hn], ?_⟩
  obtain ⟨hw, h⟩ := hx
  exact ⟨hw, h⟩
theorem s_new : s_On (fun _ => 0) (pw_new, fun _ => 0, d_addE d_new 48, d_new, false, -1) := by
  have h0 : t_dl d_new (s_k 0 0) [] := ⟨rfl, Nat.zero_le _, fun j p h => by simp at h⟩
  refine ⟨rfl, rfl, rfl, [(0, 48)], ⟨⟨rfl, ?_, trivial, List.nodup_nil, by decide⟩, fun q hq => by simp [t_fs] at hq, fun q h1 h2 => ?_⟩, ?_, t_dl_addE (n := 48) h0 (s_k_ok 0 0) (by decide) (by decide), by simp [t_fs]⟩
  · intro p hp
    rw [List.mem_singleton.mp hp]
    decide
  · have hq : ¬ 0 = q := by omega
    simp only [t_len, if_neg hq]; rfl
  · intro q a n h1 h2 h3
    exact absurd (s_at_1.mp h3).1 (by omega)
