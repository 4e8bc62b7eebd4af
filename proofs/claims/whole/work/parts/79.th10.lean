/-! THEORY: a move, and all moves -/
theorem t_zf : ∀ (A A' X Y : tL) (n n' : Nat), (∀ p ∈ A, p.1 ≠ 0) → (∀ p ∈ A', p.1 ≠ 0) → A ++ (0, n) :: X = A' ++ (0, n') :: Y → A = A' ∧ n = n' ∧ X = Y
  | [], [], X, Y, n, n', _, _, e => by
    simp only [List.nil_append, List.cons.injEq, Prod.mk.injEq] at e
    exact ⟨rfl, e.1.2, e.2⟩
  | [], q :: A', X, Y, n, n', _, h, e => by
    simp only [List.nil_append, List.cons_append, List.cons.injEq] at e
    exact absurd (by rw [← e.1]) (h q List.mem_cons_self)
  | q :: A, [], X, Y, n, n', h, _, e => by
    simp only [List.nil_append, List.cons_append, List.cons.injEq] at e
    exact absurd (by rw [e.1]) (h q List.mem_cons_self)
  | q :: A, q' :: A', X, Y, n, n', h, h', e => by
    simp only [List.cons_append, List.cons.injEq] at e
    have := t_zf A A' X Y n n' (fun p hp => h p (List.mem_cons_of_mem _ hp)) (fun p hp => h' p (List.mem_cons_of_mem _ hp)) e.2
    exact ⟨by rw [e.1, this.1], this.2⟩
section TM
variable {w : zP} {ca : zA} {dd ee : zD} {sq : Bool} {le : Int32} {mo : Bool} {gr : Int32} {ints ow nx ki na ha : zA} {mv fr sh cp : Int32} {L : tL} {wi : Bool}
theorem t_gapx {A B : tL} {n f m : Nat} (hI : t_I dd ow ki na ha (A ++ (0, n) :: (f, m) :: B)) (hz : ∀ p ∈ A, p.1 ≠ 0) : d_gap dd.1 dd.2.2.2.2 = nI A.length := by
  rcases t_gap (t_k_ok ki na ha) hI.2.2.1 hI.1.2.2.1 with ⟨-, h | ⟨A', n', e, h⟩⟩ | ⟨A', n', f', m', B', e, -, h, h2⟩
  · exact absurd rfl (h (0, n) (by simp))
  · have h3 := t_zf A A' ((f, m) :: B) [] n n' hz h e
    simp at h3
  · have h3 := t_zf A A' _ _ n n' hz h e
    rw [h2, h3.1]
theorem t_mo_min (n : Nat) (h : n ≤ 48) : i_min 8 (nI n) = nI (m_mo n) := by
  rw [show (8 : Int32) = nI 8 from rfl, t_min 8 n (by decide) (by omega), m_mo]
  congr 1
theorem t_raw_mv {A B : tL} {n f m : Nat} (hw : t_wf (A ++ (0, n) :: (f, m) :: B)) (hf : f ≠ 0) : t_raw (A ++ ((f, m) :: (0, n) :: B)) := by
  refine ⟨?_, fun p hp => hw.2.1 p ?_, ?_⟩
  · have := hw.1
    rw [t_sum_mid] at this ⊢
    simp only [t_sum] at this ⊢
    omega
  · simp only [List.mem_append, List.mem_cons] at hp ⊢
    rcases hp with h | h | h | h
    · exact Or.inl h
    · exact Or.inr (Or.inr (Or.inl h))
    · exact Or.inr (Or.inl h)
    · exact Or.inr (Or.inr (Or.inr h))
  · have := hw.2.2.2.1
    rw [t_fs_app] at this ⊢
    simp only [t_fs, if_neg hf, if_true] at this ⊢
    exact this
theorem t_dM {A B : tL} {n f m : Nat} (hI : t_I dd ow ki na ha (A ++ (0, n) :: (f, m) :: B)) : t_dl (v_dM dd ee (nI A.length)) (t_k ki na ha) (t_cat [] (A ++ ((f, m) :: (0, n) :: B))) := by
  have hκ := t_k_ok ki na ha
  have hd := hI.2.2.1
  have hb := t_wf_b hI.1
  simp only [List.length_cons] at hb
  have h1 : t_dl (d_addR (d_clear ee) dd 0 (nI A.length)) (t_k ki na ha) (t_cat [] A) :=
    t_dl_addR (A := []) (M := A) (B := (0, n) :: (f, m) :: B) hκ (by simpa using hd) (fun _ _ => rfl) (t_dl_clear ee _) rfl (by simp) (by simp; omega)
  have l1 := t_len0 A
  have e1 : nI A.length + 1 = nI (A ++ [(0, n)]).length := by rw [← nI_succ]; simp
  have e2 : nI A.length + 2 = nI (A.length + 2) := nI_add _ 2
  have h2 := t_dl_addR (A := A ++ [(0, n)]) (M := [(f, m)]) (B := B) (a := nI A.length + 1) (b := nI A.length + 2) hκ (by simpa using hd) (fun _ _ => rfl) h1 e1 (by rw [e2]; simp) (by simp; omega)
  have l2 := t_len0 (A ++ [(f, m)])
  rw [← t_cat_app] at l2
  simp only [List.length_append, List.length_cons, List.length_nil] at l2
  obtain ⟨-, a2, -, -⟩ := t_dl_at (A := A) (B := (f, m) :: B) hd
  have h3 := t_dl_addE (n := n) h2 hκ (by omega) (by omega)
  have l3 := t_len0 (A ++ [(f, m)] ++ t_z n)
  rw [← t_cat_app, ← t_cat_app] at l3
  have hz := t_z_n n
  simp only [List.length_append, List.length_cons, List.length_nil] at l3
  have h4 := t_dl_addR (A := A ++ [(0, n), (f, m)]) (M := B) (B := []) (a := nI A.length + 2) (b := dd.2.2.2.2) hκ (by simpa using hd) (fun _ _ => rfl) h3 (by rw [e2]; simp) (by rw [hd.1]; simp; congr 1; omega) (by omega)
  rw [t_cat_app, t_cat_app, t_cat_app] at h4
  have e3 : A ++ ([(f, m)] ++ (t_z n ++ B)) = A ++ ((f, m) :: (0, n) :: B) := by
    have hn : n ≠ 0 := by omega
    simp [t_z, hn]
  rw [v_dM, a2]
  rw [← e3]
  simpa using h4
theorem t_mvx {A B : tL} {n f m : Nat} (hI : t_I dd ow ki na ha (A ++ (0, n) :: (f, m) :: B)) : ∀ t, t < 48 → m_mvXF (m_cp nx ow) (t_sum A + n - n) m (nI f) (n + m) t = nI (t_ex (A ++ ((f, m) :: (0, n) :: B)) t) := by
  intro t ht
  have h1 := hI.2.1 t ht
  rw [m_mvXF, t_cp_at ht, h1, Nat.add_sub_cancel, t_ex_2, t_ex_2]
  simp only [t_ex]
  by_cases k1 : t < t_sum A
  · rw [if_neg (by omega), if_pos k1, if_pos k1]
  · rw [if_neg k1, if_neg k1]
    by_cases k2 : t < t_sum A + (n + m)
    · rw [if_pos ⟨by omega, k2⟩]
      by_cases k3 : t < t_sum A + m
      · rw [if_pos k3, if_pos k3]
      · rw [if_neg k3, if_neg k3, if_pos (by omega)]; rfl
    · rw [if_neg (by omega), if_neg (by omega), if_neg (by omega), if_neg (by omega), if_neg (by omega)]
      congr 2; omega
theorem t_move {A B : tL} {n f m g0 : Nat} {told : Int32} (hI : t_I dd ow ki na ha (A ++ (0, n) :: (f, m) :: B)) (hf : f ≠ 0) (hi : ∀ x, x < 48 → ca x = ints x) (hw : w.1 = true) (hs : wi = true ∨ sq = true)
    (h0 : (told = 0 ∧ g0 = 0 ∧ le = -1 ∧ mo = false) ∨ (told = 1 ∧ le = nI g0 ∧ g0 < m ∧ gr = nI g0 ∧ mo = true ∧ sq = true)) :
    ∃ (w' : zP) (ca' : zA) (dd' ee' : zD) (sq' mo' : Bool) (le' gr' : Int32) (ints' : zA) (cp' : Int32) (ow' nx' : zA), (∀ x, x < 48 → ca' x = ints' x) ∧
      v_mv (w, ca, dd, ee, sq, le) (nI A.length) = (w'.1, w', ca', dd', ee', sq', le') ∧
      m_move (w.1, w.2.1, w.2.2, sq) wi mo gr ints cp ow nx (nI f) (t_sum A + n) n m g0 told = (w'.1, (w'.1, w'.2.1, w'.2.2, sq'), mo', gr', ints', cp', ow', nx') ∧
      ((w'.1 = false ∧ t_I dd' ow' ki na ha (A ++ (0, n) :: (f, m) :: B) ∧ t_st m sq' le' mo' gr') ∨
       (w'.1 = true ∧ t_I dd' ow' ki na ha (t_cat [] (A ++ ((f, m) :: (0, n) :: B))) ∧ sq' = true ∧ mo' = false ∧ le' = -1 ∧ cp' = cp + nI (m - g0))) := by
  have hb := t_wf_b hI.1
  have hd := hI.2.2.1
  have hI2 : t_I dd ow ki na ha ((A ++ [(0, n)]) ++ (f, m) :: B) := by simpa using hI
  have hb2 := t_wf_b hI2.1
  rw [t_sum_s] at hb2
  simp only [List.length_cons] at hb
  obtain ⟨-, a2, -, -⟩ := t_dl_at (A := A) (B := (f, m) :: B) hd
  obtain ⟨-, a3, -, -⟩ := t_dl_at hI2.2.2.1
  have e1 : nI A.length + 1 = nI (A ++ [(0, n)]).length := by rw [← nI_succ]; simp
  have b1 := t_beg (A := A) (B := (0, n) :: (f, m) :: B) hd
  have b2 := t_beg (A := A ++ [(0, n)]) (B := (f, m) :: B) hI2.2.2.1
  rw [← e1] at a3 b2
  rw [t_sum_s] at b2
  have hg0 : g0 < m := by rcases h0 with ⟨-, h, -⟩ | ⟨-, -, h, -⟩ <;> omega
  have hst : t_st m sq le mo gr := by
    rcases h0 with ⟨-, -, h1, h2⟩ | ⟨-, h1, h2, h3, h4, h5⟩
    · exact Or.inl ⟨h2, h1⟩
    · exact Or.inr ⟨h4, h5, g0, h2, h3, h1⟩
  have hno : ¬ (g0 < g0 ∨ told = 0) → sq = true ∧ mo = true := by
    intro h
    rcases h0 with ⟨h1, -⟩ | ⟨-, -, -, -, h4, h5⟩
    · exact absurd (Or.inr h1) h
    · exact ⟨h5, h4⟩
  obtain ⟨w1, ca1, ints1, sq1, mo1, le1, gr1, cp1, k1, k2, k3, k4, k5, k6, k7⟩ := t_out (wi := wi) (a := t_sum A + n) (b := n) (len := m) (g := g0) (told := told) hb.1 (by omega) (by omega) 60 g0 w ca ints sq mo le gr cp (by omega) (Nat.le_refl _) hw hi hs hst hno
  have hle : i_max 0 le = nI g0 ∧ (if le = -1 then (0 : Int32) else nI (m_mo n)) = (if g0 < g0 ∨ told = 0 then 0 else nI (m_mo n)) := by
    rcases h0 with ⟨h1, h2, h3, -⟩ | ⟨h1, h2, h3, -⟩
    · rw [h1, h2, h3]; exact ⟨by decide, by simp⟩
    · rw [h1, h2]
      refine ⟨?_, ?_⟩
      · rw [show (0 : Int32) = nI 0 from rfl, t_max 0 g0 (by decide) (by omega)]; congr 1
      · rw [if_neg (t_neg1 (by omega)), if_neg (by simp)]
  have hv : v_cp w ca dd sq le (nI A.length) = (w1.1, w1, ca1, sq1, le1) := by
    rw [v_cp, v_cov, v_grp, a2, t_mo_min n (by omega), hle.1, hle.2, a3, b1, b2, nI_toInt (by omega), nI_toInt (by omega), show ((m : Int) - (g0 : Int)).toNat = m - g0 by omega]
    rw [Nat.add_sub_cancel] at k4
    exact k4
  rw [v_mv, m_move]
  simp only [hv, k3, m_mvY]
  by_cases hw1 : w1.1 = false
  · simp only [hw1, if_true]
    refine ⟨w1, ca1, dd, ee, sq1, mo1, le1, gr1, ints1, cp1, ow, nx, k1, ?_, ?_, Or.inl ⟨hw1, hI, k2⟩⟩
    · rw [hw1]
    · rw [hw1]
  · have hw2 : w1.1 = true := by simpa using hw1
    obtain ⟨s1, s2⟩ := k6 hg0 hw2
    subst s1
    have hr := t_raw_mv hI.1 hf
    have hx := t_mvx (nx := nx) hI
    have hdM := t_dM (ee := ee) hI
    obtain ⟨c1, c2, c3⟩ := t_chg (w := w1) (dd := dd) (wi := wi) (sq := true) (ow := ow) hw2 (fun _ => rfl) hdM (t_raw_nf hr) (t_raw_ow hx)
    simp only [if_neg hw1, m_mvZ]
    rw [c1]
    simp only
    by_cases hc : (v_change w1 dd (v_dM dd ee (nI A.length))).1 = false
    · simp only [if_pos hc]
      rw [if_pos hc] at c2
      rw [c2]
      rw [hc] at c3
      refine ⟨(v_change w1 dd (v_dM dd ee (nI A.length))).2.1, ca1, dd, v_dM dd ee (nI A.length), true, mo1, le1, gr1, ints1, cp1, ow, m_mvXF (m_cp nx ow) (t_sum A + n - n) m (nI f) (n + m), k1, ?_, ?_, Or.inl ⟨c3, hI, k2⟩⟩
      · rw [c3]
      · rw [c3]
    · simp only [if_neg hc]
      rw [if_neg hc] at c2
      rw [c2]
      have hc2 : (v_change w1 dd (v_dM dd ee (nI A.length))).1 = true := by simpa using hc
      rw [hc2] at c3
      have hlen : (t_cat [] (A ++ ((f, m) :: (0, n) :: B))).length ≤ 16 := by
        have := t_len0 (A ++ ((f, m) :: (0, n) :: B))
        simp only [List.length_append, List.length_cons] at this
        omega
      have hfl : t_fl ki na ha (A ++ ((f, m) :: (0, n) :: B)) := by
        refine t_fl_fs hI.2.2.2 ?_
        rw [t_fs_app, t_fs_app]
        simp only [t_fs, if_neg hf, if_true]
      refine ⟨(v_change w1 dd (v_dM dd ee (nI A.length))).2.1, ca1, d_take dd (v_dM dd ee (nI A.length)), v_dM dd ee (nI A.length), true, false, -1, gr1, ints1, cp1, m_cp ow (m_mvXF (m_cp nx ow) (t_sum A + n - n) m (nI f) (n + m)), m_mvXF (m_cp nx ow) (t_sum A + n - n) m (nI f) (n + m), k1, ?_, ?_, Or.inr ⟨c3, t_new hr hx hdM hlen hfl, rfl, rfl, rfl, k5 hw2⟩⟩
      · rw [c3]
      · rw [c3]
/-- files behind the first empty entry -/
def t_mu : tL → Nat
  | [] => 0
  | p :: r => if p.1 = 0 then (t_fs r).length else t_mu r
def t_hz : tL → Bool
  | [] => false
  | p :: r => if p.1 = 0 then true else t_hz r
theorem t_hz_app (X M : tL) : t_hz (X ++ M) = (t_hz X || t_hz M) := by
  induction X with
  | nil => rfl
  | cons p r ih =>
    simp only [List.cons_append, t_hz, ih]
    split <;> simp
theorem t_mu_app (X M : tL) : t_mu (X ++ M) = if t_hz X = true then t_mu X + (t_fs M).length else t_mu M := by
  induction X with
  | nil => rfl
  | cons p r ih =>
    simp only [List.cons_append, t_mu, t_hz, ih]
    by_cases h : p.1 = 0
    · simp only [if_pos h, if_true, t_fs_app, List.length_append]
    · simp only [if_neg h]
theorem t_hz_add (X : tL) (p : Nat × Nat) : t_hz (t_add X p) = t_hz (X ++ [p]) ∧ t_mu (t_add X p) = t_mu (X ++ [p]) := by
  rcases t_add_or X p with ⟨e, -⟩ | ⟨Y, k, e1, e0, e2⟩
  · rw [e]; exact ⟨rfl, rfl⟩
  · obtain ⟨i, j⟩ := p
    simp only at e0 e2
    subst e0
    rw [e2, e1, List.append_assoc, t_hz_app, t_hz_app, t_mu_app, t_mu_app]
    exact ⟨rfl, rfl⟩
theorem t_mu_cat (M : tL) : ∀ X : tL, t_mu (t_cat X M) = t_mu (X ++ M) := by
  induction M with
  | nil => intro X; simp
  | cons p r ih =>
    intro X
    obtain ⟨h1, h2⟩ := t_hz_add X p
    rw [t_cat_cons, ih, t_mu_app, h1, h2, show X ++ p :: r = (X ++ [p]) ++ r by simp, t_mu_app (X ++ [p])]
theorem t_mu_zf {A M : tL} (h : ∀ p ∈ A, p.1 ≠ 0) : t_mu (A ++ M) = t_mu M := by
  induction A with
  | nil => rfl
  | cons p r ih =>
    rw [List.cons_append, t_mu, if_neg (h p List.mem_cons_self), ih (fun q hq => h q (List.mem_cons_of_mem _ hq))]
theorem t_mu_mv {A B : tL} {n f m : Nat} (hz : ∀ p ∈ A, p.1 ≠ 0) (hf : f ≠ 0) : t_mu (A ++ (0, n) :: (f, m) :: B) = t_mu (t_cat [] (A ++ ((f, m) :: (0, n) :: B))) + 1 := by
  rw [t_mu_cat, List.nil_append, t_mu_zf hz, t_mu_zf hz]
  simp only [t_mu, t_fs, if_neg hf, if_true, List.length_cons]
theorem t_mu_le (M : tL) : t_mu M ≤ M.length - 1 := by
  induction M with
  | nil => exact Nat.le_refl _
  | cons p r ih =>
    rw [t_mu]
    have h := t_fs_len r
    simp only [List.length_cons]
    split <;> omega
theorem t_mok {A B : tL} {n f m g : Nat} (hI : t_I dd ow ki na ha (A ++ (0, n) :: (f, m) :: B)) (hf : f ≠ 0) (hg : g ≤ m) : m_mok ow (nI f, nI (t_sum A + n), nI n) g ∧ (m_cnt ow (nI f) 48).toNatClampNeg = m := by
  have hb := t_wf_b hI.1
  have hI2 : t_I dd ow ki na ha ((A ++ [(0, n)]) ++ (f, m) :: B) := by simpa using hI
  have hb2 := t_wf_b hI2.1
  rw [t_sum_s] at hb2
  have hc := t_cnt_f hI2.1 hI2.2.1 hf
  rw [m_mok]
  simp only [hc]
  rw [nI_clamp (by omega), nI_clamp (by omega), nI_clamp (by omega)]
  exact ⟨⟨rfl, rfl, hb.1, by omega, rfl, by omega, hg⟩, rfl⟩
theorem t_tF {A B : tL} {n f m : Nat} (hI : t_I dd ow ki na ha (A ++ (0, n) :: (f, m) :: B)) (hz : ∀ p ∈ A, p.1 ≠ 0) (hf : f ≠ 0) (fr sh : Int32) : m_fmR ow fr sh = (true, nI f, nI (t_sum A + n), nI n) := by
  have hb := t_wf_b (A := A ++ [(0, n)]) (i := f) (n := m) (B := B) (by have := hI.1; simpa using this)
  rw [m_fmR, t_fm_at (t_wf_nf hI.1) hI.2.1 hz hf fr sh]
  simp only
  rw [if_neg (fun h => hf ((t_le0 (by omega)).mp h))]
theorem t_mall : ∀ (k n n' : Nat) (L : tL) (w : zP) (ca : zA) (dd ee : zD) (sq : Bool) (gr : Int32) (ints : zA) (cv cp : Int32) (ow nx : zA) (mv fr sh : Int32), t_mu L ≤ k → k < n → k < n' → t_I dd ow ki na ha L → (∀ x, x < 48 → ca x = ints x) → w.1 = true → (wi = true ∨ sq = true) →
    m_maOK wi n' ((w.1, w.2.1, w.2.2, sq), false, gr, ints, cp, ow, nx, mv, fr, sh) ∧
    ∃ (w' : zP) (ca' : zA) (dd' ee' : zD) (sq' mo' : Bool) (le' gr' : Int32) (ints' : zA) (cv' cp' : Int32) (ow' nx' : zA) (mv' fr' sh' : Int32) (L' : tL), (∀ x, x < 48 → ca' x = ints' x) ∧ (cv = cp → cv' = cp') ∧ t_I dd' ow' ki na ha L' ∧
      ((w'.1 = false ∧ v_maF n cv (w, ca, dd, ee, sq, -1) = (-1, w', ca', dd', ee', sq', le') ∧ m_maF wi n' ((w.1, w.2.1, w.2.2, sq), false, gr, ints, cp, ow, nx, mv, fr, sh) = (false, (w'.1, w'.2.1, w'.2.2, sq'), mo', gr', ints', cp', ow', nx', mv', fr', sh') ∧ t_mid L' w' sq' le' mo' gr' mv' fr' sh') ∨
       (w'.1 = true ∧ v_maF n cv (w, ca, dd, ee, sq, -1) = (cv', w', ca', dd', ee', false, -1) ∧ m_maF wi n' ((w.1, w.2.1, w.2.2, sq), false, gr, ints, cp, ow, nx, mv, fr, sh) = (true, (w'.1, w'.2.1, w'.2.2, sq'), false, gr', ints', cp', ow', nx', mv', fr', sh')))
  | k, 0, _, _, _, _, _, _, _, _, _, _, _, _, _, _, _, _, _, h, _, _, _, _, _ => absurd h (by omega)
  | k, _ + 1, 0, _, _, _, _, _, _, _, _, _, _, _, _, _, _, _, _, _, h, _, _, _, _ => absurd h (by omega)
  | k, n + 1, n' + 1, L, w, ca, dd, ee, sq, gr, ints, cv, cp, ow, nx, mv, fr, sh, hk, hn, hn', hI, hi, hw, hs => by
    rcases t_gap (t_k_ok ki na ha) hI.2.2.1 hI.1.2.2.1 with ⟨h1, h2⟩ | ⟨A, z, f, m, B, e, hf, hz, h2⟩
    · have hF : m_fmR ow fr sh = (false, 0, fr, sh) := by
        rw [m_fmR, t_fm_no (t_wf_nf hI.1) hI.2.1 fr sh h2]
        simp only
        rw [if_pos (by decide)]
      refine ⟨?_, w, ca, dd, ee, sq, false, -1, gr, ints, cv, cp, ow, nx, 0, fr, sh, L, hi, fun h => h, hI, Or.inr ⟨hw, ?_, ?_⟩⟩
      · rw [m_maOK]
        intro h
        simp only [m_tF, hF] at h
        cases h
      · rw [v_maF]
        simp only [v_gap]
        rw [if_pos h1]; rfl
      · rw [m_maF]
        simp only [m_tF, hF, if_true]
    · subst e
      have hF := t_tF hI hz hf fr sh
      obtain ⟨w1, ca1, dd1, ee1, sq1, mo1, le1, gr1, ints1, cp1, ow1, nx1, k1, k2, k3, k4⟩ := t_move (ee := ee) (nx := nx) (cp := cp) (gr := gr) (told := 0) (g0 := 0) (mo := false) (le := -1) (sq := sq) (wi := wi) hI hf hi hw hs (Or.inl ⟨rfl, rfl, rfl, rfl⟩)
      obtain ⟨o1, o2⟩ := t_mok (g := 0) hI hf (Nat.zero_le _)
      have hb := t_wf_b hI.1
      have hb2 := t_wf_b (A := A ++ [(0, z)]) (i := f) (n := m) (B := B) (by have := hI.1; simpa using this)
      rw [t_sum_s] at hb2
      have hI2 : t_I dd ow ki na ha ((A ++ [(0, z)]) ++ (f, m) :: B) := by simpa using hI
      obtain ⟨-, a3, -, -⟩ := t_dl_at hI2.2.2.1
      have e1 : nI A.length + 1 = nI (A ++ [(0, z)]).length := by rw [← nI_succ]; simp
      rw [← e1] at a3
      have hM : m_mv0 wi ((w.1, w.2.1, w.2.2, sq), false, gr, ints, cp, ow, nx, mv, fr, sh) (nI f, nI (t_sum A + z), nI z) 0 0 = (w1.1, (w1.1, w1.2.1, w1.2.2, sq1), mo1, gr1, ints1, cp1, ow1, nx1) := by
        simp only [m_mv0]
        rw [nI_clamp (by omega), nI_clamp (by omega), o2]
        exact k3
      have hV : v_maF (n + 1) cv (w, ca, dd, ee, sq, -1) = if w1.1 = false then (-1, w1, ca1, dd1, ee1, sq1, le1) else v_maF n (cv + nI m) (w1, ca1, dd1, ee1, sq1, le1) := by
        rw [v_maF]
        simp only [v_gap]
        rw [if_neg (by rw [h2]; exact t_neg1 (by omega)), h2, k2, a3]
      have hMM : m_maF wi (n' + 1) ((w.1, w.2.1, w.2.2, sq), false, gr, ints, cp, ow, nx, mv, fr, sh) = if w1.1 = false then (false, (w1.1, w1.2.1, w1.2.2, sq1), mo1, gr1, ints1, cp1, ow1, nx1, nI f, nI (t_sum A + z), nI z) else m_maF wi n' ((w1.1, w1.2.1, w1.2.2, sq1), mo1, gr1, ints1, cp1, ow1, nx1, nI f, nI (t_sum A + z), nI z) := by
        rw [m_maF]
        simp only [m_tF, hF, Bool.true_eq_false, if_false, hM, m_pk]
      rw [hV, hMM]
      rcases k4 with ⟨q1, q2, q3⟩ | ⟨q1, q2, q3, q4, q5, q6⟩
      · refine ⟨?_, w1, ca1, dd1, ee1, sq1, mo1, le1, gr1, ints1, cp1, cp1, ow1, nx1, nI f, nI (t_sum A + z), nI z, _, k1, fun _ => rfl, q2, Or.inl ⟨q1, by rw [if_pos q1], by rw [if_pos q1], ?_⟩⟩
        · rw [m_maOK]
          intro _
          simp only [m_tF, hF, hM]
          exact ⟨o1, fun h => by rw [q1] at h; cases h⟩
        · rcases q3 with h | ⟨g1, g2, g, g3, g4, g5⟩
          · exact Or.inl h
          · exact Or.inr ⟨g1, g2, q1, A, z, f, m, B, g, rfl, hz, hf, rfl, rfl, rfl, g4, g5, g3⟩
      · subst q4 q5 q6
        have hmu := t_mu_mv (B := B) (n := z) (m := m) hz hf
        obtain ⟨i1, w2, ca2, dd2, ee2, sq2, mo2, le2, gr2, ints2, cv2, cp2, ow2, nx2, mv2, fr2, sh2, L2, j1, j2, j3⟩ := t_mall (k - 1) n n' _ w1 ca1 dd1 ee1 sq1 gr1 ints1 (cv + nI m) (cp + nI (m - 0)) ow1 nx1 (nI f) (nI (t_sum A + z)) (nI z) (by omega) (by omega) (by omega) q2 k1 q1 (Or.inr q3)
        have hw1 : ¬ w1.1 = false := by rw [q1]; decide
        rw [if_neg hw1, if_neg hw1]
        refine ⟨?_, w2, ca2, dd2, ee2, sq2, mo2, le2, gr2, ints2, cv2, cp2, ow2, nx2, mv2, fr2, sh2, L2, j1, fun h => j2 (by rw [h, Nat.sub_zero]), j3⟩
        rw [m_maOK]
        intro _
        simp only [m_tF, hF, hM]
        exact ⟨o1, fun _ => i1⟩
end TM
