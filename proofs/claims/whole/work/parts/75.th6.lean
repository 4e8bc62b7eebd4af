/-! THEORY: the calls that change no directory -/
theorem t_mid_w {L : tL} {w w' : zP} {sq : Bool} {le : Int32} {mo : Bool} {gr mv fr sh : Int32} (h : t_mid L w sq le mo gr mv fr sh) (e : w'.1 = w.1) : t_mid L w' sq le mo gr mv fr sh := by
  rcases h with h | ⟨h1, h2, h3, h4⟩
  · exact Or.inl h
  · exact Or.inr ⟨h1, h2, by rw [e, h3], h4⟩
section TR
variable {w : zP} {ca : zA} {dd ee : zD} {sq : Bool} {le : Int32} {qq : zQ} {mo : Bool} {gr : Int32} {ints ow nx ki na ha : zA} {mv fr sh : Int32} {L : tL}
theorem t_neg1 {k : Nat} (h : k < 2 ^ 31) : ¬ nI k = -1 := fun e => absurd (by rw [e]; decide) (nI_pos h)
/-- of a file at a place -/
theorem t_of {A B : tL} {f n : Nat} (h : t_I dd ow ki na ha (A ++ (f, n) :: B)) (hf : f ≠ 0) :
    r_at 17 dd.2.1 (nI A.length) = nI n ∧ d_begin dd.2.1 dd.2.2.2.2 (nI A.length) = nI (t_sum A) ∧ m_cnt ow (nI f) 48 = nI n ∧ m_begF ow (nI f) 48 (-1) = nI (t_sum A) ∧ r_at 17 dd.2.2.1 (nI A.length) = na f ∧ t_sum A + n ≤ 48 ∧ 1 ≤ n ∧ ¬ nI A.length = -1 ∧ ¬ nI f = 0 ∧ f ≤ 16 ∧ A.length ≤ 15 := by
  have hb := t_wf_b h.1
  obtain ⟨a1, a2, a3, a4⟩ := t_dl_at h.2.2.1
  refine ⟨a2, t_beg (B := (f, n) :: B) h.2.2.1, t_cnt_f h.1 h.2.1 hf, t_begF h.1 h.2.1 hf, ?_, by omega, hb.1, t_neg1 (by omega), fun e => hf ((nI_0i hb.2.1).mp e), hb.2.1, by omega⟩
  rw [a3]; simp [t_k, hf]
theorem t_r48 {f : zA} {a i n : Nat} (h : a + n ≤ 48) (hi : i < n) : r_at 48 f (nI a + nI i) = f (a + i) := by
  rw [nI_add, r_at_n _ (by omega) (by decide)]
theorem t_cutAfter (hR : t_R w ca dd sq le qq mo gr ints ow ki na ha mv fr sh) (n : Int32) : k_map [1, 2] (v_cut w n).1 = (m_cut qq n).1 ∧ t_R (v_cut w n).2 ca dd sq le (m_cut qq n).2 mo gr ints ow ki na ha mv fr sh := by
  obtain ⟨rfl, hi, L, hI, hm⟩ := hR
  obtain ⟨up, left, cnt⟩ := w
  cases up with
  | false => exact ⟨rfl, rfl, hi, L, hI, hm⟩
  | true =>
    by_cases hn : (-1 : Int32) ≤ n
    · simp only [v_cut, v_pw, m_cut, Bool.true_eq_false, if_false, if_true, if_pos hn]
      exact ⟨rfl, rfl, hi, L, hI, t_mid_w hm rfl⟩
    · simp only [v_cut, v_pw, m_cut, Bool.true_eq_false, if_false, if_true, if_neg hn]
      exact ⟨rfl, rfl, hi, L, hI, hm⟩
theorem t_entries (hR : t_R w ca dd sq le qq mo gr ints ow ki na ha mv fr sh) : k_map [1] (v_entries w dd).1 = (m_entries qq ow).2 ∧ ((v_entries w dd).1 = 0 → (v_entries w dd).2 = (m_entries qq ow).1) := by
  obtain ⟨rfl, hi, L, hI, hm⟩ := hR
  obtain ⟨up, left, cnt⟩ := w
  cases up with
  | false => exact ⟨rfl, fun h => by cases h⟩
  | true =>
    simp only [v_entries, v_pw, m_entries, Bool.true_eq_false, if_false, if_true]
    exact ⟨rfl, fun _ => by rw [hI.2.2.1.1, t_runs (t_wf_nf hI.1) hI.2.1]⟩
theorem t_free_ (hR : t_R w ca dd sq le qq mo gr ints ow ki na ha mv fr sh) (a : Int32) : k_map [1] (v_free w dd a).1 = (m_free qq ow a).2 ∧ ((v_free w dd a).1 = 0 → (v_free w dd a).2 = (m_free qq ow a).1) := by
  obtain ⟨rfl, hi, L, hI, hm⟩ := hR
  obtain ⟨up, left, cnt⟩ := w
  cases up with
  | false => exact ⟨rfl, fun h => by cases h⟩
  | true =>
    simp only [v_free, v_pw, m_free, Bool.true_eq_false, if_false, if_true]
    by_cases ha0 : a = 0
    · simp only [if_pos ha0]
      refine ⟨rfl, fun _ => ?_⟩
      rw [t_emp (t_k_ok ki na ha) hI.2.2.1]
      exact (t_cnt (q := 0) hI.1 hI.2.1 (by omega)).symm
    · simp only [if_neg ha0]
      refine ⟨rfl, fun _ => ?_⟩
      obtain ⟨x, y, -, -, h3, -, h5⟩ := t_long (t_k_ok ki na ha) (t_wf_nf hI.1) hI.2.1 hI.2.2.1
      rw [d_long, t_clamp hI.2.2.1, h5, m_lon, if_pos rfl, h3]
theorem t_handle (hR : t_R w ca dd sq le qq mo gr ints ow ki na ha mv fr sh) (q : Int32) : k_map [1] (v_handle w dd q).1 = (m_handle qq ki na ha q).2 ∧ ((v_handle w dd q).1 = 0 → (v_handle w dd q).2 = (m_handle qq ki na ha q).1) := by
  obtain ⟨rfl, hi, L, hI, hm⟩ := hR
  obtain ⟨up, left, cnt⟩ := w
  cases up with
  | false => exact ⟨rfl, fun h => by cases h⟩
  | true =>
    simp only [v_handle, v_pw, m_handle, Bool.true_eq_false, if_false, if_true]
    refine ⟨rfl, fun _ => ?_⟩
    have key : ∀ j : Nat, (d_pH dd.1 dd.2.2.1 dd.2.2.2.1 dd.2.2.2.2 q j = true ∧ ¬ nI (m_hand ki ha (nI j)) ≤ 0 ∧ na (m_hand ki ha (nI j)) = q) ∨ (d_pH dd.1 dd.2.2.1 dd.2.2.2.1 dd.2.2.2.2 q j = false ∧ (nI (m_hand ki ha (nI j)) ≤ 0 ∨ ¬ na (m_hand ki ha (nI j)) = q)) := by
      intro j
      rcases t_tent hI (nI j) with ⟨h1, h2⟩ | ⟨A, f, n, B, e, h1, h2, h3, h4, h5, h6⟩
      · right
        simp only [v_T] at h1
        rw [d_pH, h1, h2]
        exact ⟨by simp, Or.inl (by decide)⟩
      · have h7 := hI
        rw [e] at h7
        have h8 := t_of h7 h1
        simp only [v_T] at h5
        rw [d_pH, h5, h6, h8.2.2.2.2.1]
        have h9 : ¬ nI f ≤ 0 := fun h => h1 ((t_le0 (by omega)).mp h)
        by_cases h10 : na f = q
        · exact Or.inl ⟨by simp [h8.2.2.2.2.2.2.2.1, h10], h9, h10⟩
        · exact Or.inr ⟨by simp [h10], Or.inr h10⟩
    have step : ∀ j x, m_hdF ki na ha q (j + 1) x = m_hdF ki na ha q j (if d_pH dd.1 dd.2.2.1 dd.2.2.2.1 dd.2.2.2.2 q j = true then nI j else x) := by
      intro j x
      rw [m_hdF]
      rcases key j with ⟨h1, h2, h3⟩ | ⟨h1, h2 | h2⟩
      · rw [if_neg h2, if_pos h3, if_pos h1]
      · rw [if_pos h2, if_neg (by rw [h1]; decide)]
      · rw [if_neg (show ¬ d_pH dd.1 dd.2.2.1 dd.2.2.2.1 dd.2.2.2.2 q j = true by rw [h1]; decide)]
        split <;> rfl
    rw [step, step, step, step, m_hdF, d_hand, z_find]
    simp only [z_findF, show 4 - 0 = 4 from rfl]
    repeat' split
    all_goals first | rfl | simp_all
theorem t_entry (hR : t_R w ca dd sq le qq mo gr ints ow ki na ha mv fr sh) (k a ra rl : Int32) : k_map [1, 2, 5] (v_entry w dd k a).1 = (m_entry qq ow ki na ra rl k a).2.1 ∧ ((v_entry w dd k a).1 = 0 → (v_entry w dd k a).2 = (m_entry qq ow ki na ra rl k a).1) := by
  obtain ⟨rfl, hi, L, hI, hm⟩ := hR
  obtain ⟨up, left, cnt⟩ := w
  cases up with
  | false => exact ⟨rfl, fun h => by cases h⟩
  | true =>
    simp only [v_entry, v_pw, m_entry, Bool.true_eq_false, if_false, if_true]
    by_cases ha0 : a < 0
    · simp only [if_pos ha0]; exact ⟨rfl, fun h => by cases h⟩
    by_cases ha3 : a ≤ 3
    · simp only [if_neg ha0, if_pos ha3]
      by_cases hk0 : k < 0
      · simp only [if_pos hk0]; exact ⟨rfl, fun h => by cases h⟩
      obtain ⟨j, hj, rfl⟩ := nI_of hk0
      have hc := hI.2.2.1.1
      have hl := hI.1.2.2.2.2
      by_cases hk : nI j < dd.2.2.2.2
      · have hjl : j < L.length := by rw [hc] at hk; exact (nI_ltI hj (by omega)).mp hk
        obtain ⟨⟨i, n⟩, hx⟩ : ∃ x, L[j]? = some x := ⟨L[j], List.getElem?_eq_getElem hjl⟩
        obtain ⟨A, B, e, rfl⟩ := t_of_at hx
        have hI' := hI
        rw [e] at hI'
        have hb := t_wf_b hI'.1
        obtain ⟨a1, a2, a3, a4⟩ := t_dl_at hI'.2.2.1
        have hat : m_at ow (nI A.length) = t_sum A := by
          rw [m_at, nI_clamp hj]
          exact t_at_ow (t_wf_nf hI.1) hI.2.1 e
        have h48 : ¬ (48 : Int32) < nI A.length := nI_nlt (b := A.length) (a := 48) (by omega) (by decide) |> fun h => by
          intro h9
          rw [show (48 : Int32) = nI 48 from rfl, nI_ltI (by decide) hj] at h9
          omega
        have h48' : ¬ (48 : Int32) ≤ nI (t_sum A) := nI_ge (b := 48) (by omega) (by decide)
        have how : ow (t_sum A) = nI i := t_ow_blk hI'.2.1 (by omega) (Nat.le_refl _) (by omega)
        have hrf := t_rf (t_wf_nf hI'.1) hI'.2.1
        simp only [if_neg hk0, if_pos hk, if_neg h48, m_runR, hat, if_neg h48', Bool.true_eq_false, if_false, how, hrf, a1, a2, a3, t_beg (A := A) (B := (i, n) :: B) hI'.2.2.1, nI_clamp (show i < 2 ^ 31 by omega)]
        by_cases hi0 : i = 0
        · subst hi0
          simp only [t_k_0, show nI 0 = (0 : Int32) from rfl, if_true]
          repeat' split
          all_goals exact ⟨rfl, fun _ => rfl⟩
        · have hni : ¬ nI i = 0 := fun h => hi0 ((nI_0i hb.2.1).mp h)
          have hid := t_I_id hI' (List.mem_append_right _ List.mem_cons_self) hi0
          simp only [if_neg hni, t_k, if_neg hi0]
          have hkk : (if ki i = 1 then (1 : Int32) else 2) = ki i := by
            rcases hid.2.2.2 with h | h <;> rw [h] <;> decide
          rw [hkk]
          repeat' split
          all_goals exact ⟨rfl, fun _ => rfl⟩
      · have hjl : L.length ≤ j := by
          rcases Nat.lt_or_ge j L.length with h | h
          · exact absurd (by rw [hc]; exact nI_lt h (by omega)) hk
          · exact h
        simp only [if_neg hk0, if_neg hk]
        by_cases h48 : (48 : Int32) < nI j
        · simp only [if_pos h48]; exact ⟨rfl, fun h => by cases h⟩
        · have hat : m_at ow (nI j) = 48 := by
            rw [m_at, nI_clamp hj]
            have h1 := t_at_ow (A := L) (B := []) (t_wf_nf hI.1) hI.2.1 (by simp)
            rw [hI.1.1] at h1
            have h2 := m_at_st (ow := ow) (i := L.length) (by omega) (j - L.length)
            rw [show L.length + (j - L.length) = j by omega] at h2
            rw [h2, h1]
          have h49 : (48 : Int32) ≤ nI 48 := by decide
          simp only [if_neg h48, m_runR, hat, if_pos h49, if_true]
          exact ⟨rfl, fun h => by cases h⟩
    · simp only [if_neg ha0, if_neg ha3]; exact ⟨rfl, fun h => by cases h⟩
theorem t_read (hR : t_R w ca dd sq le qq mo gr ints ow ki na ha mv fr sh) (q b : Int32) : k_map [1, 4, 2] (v_read w ca dd q b).1 = (m_read qq ints ow ki na q b).2 ∧ ((v_read w ca dd q b).1 = 0 → (v_read w ca dd q b).2 = (m_read qq ints ow ki na q b).1) := by
  obtain ⟨rfl, hi, L, hI, hm⟩ := hR
  obtain ⟨up, left, cnt⟩ := w
  cases up with
  | false => exact ⟨rfl, fun h => by cases h⟩
  | true =>
    simp only [v_read, v_pw, m_read, Bool.true_eq_false, if_false, if_true]
    rcases t_perm hI q with ⟨h1, h2⟩ | ⟨A, f, n, B, e, h1, h2, h3, h4, h5, h6⟩
    · simp only [v_P] at h1
      simp only [v_rp, h1, h2, if_true, show nI 0 = (0 : Int32) from rfl]
      exact ⟨rfl, fun h => by cases h⟩
    · have hI' := hI
      rw [e] at hI'
      obtain ⟨b1, b2, b3, b4, b5, b6, b7, b8, b9, b10, b11⟩ := t_of hI' h1
      simp only [v_P] at h5
      simp only [v_rp, v_P, h5, h6, if_neg b8, if_neg b9, v_rb, b1, b2, b3, b4, if_true]
      by_cases hb0 : b < 0
      · simp only [if_pos hb0]; exact ⟨rfl, fun h => by cases h⟩
      by_cases hbn : b < nI n
      · simp only [if_neg hb0, if_pos hbn, if_true]
        refine ⟨rfl, fun _ => ?_⟩
        obtain ⟨j, rfl, hj⟩ := z_lt_nat (by omega) hb0 hbn
        rw [t_r48 b6 hj, nI_add, nI_clamp (by omega), hi _ (by omega)]
      · simp only [if_neg hb0, if_neg hbn]; exact ⟨rfl, fun h => by cases h⟩
theorem t_upd48 {f g : zA} (h : ∀ t, t < 48 → f t = g t) (a : Nat) (v : Int32) : ∀ t, t < 48 → upd f a v t = upd g a v t := by
  intro t ht
  by_cases h1 : t = a
  · subst h1; rw [t_upd_e, t_upd_e]
  · rw [t_upd_n h1, t_upd_n h1, h t ht]
theorem t_put (hR : t_R w ca dd sq le qq mo gr ints ow ki na ha mv fr sh) (q b v : Int32) : k_map [1, 4, 2] (v_put w ca dd q b v).1 = (m_put qq false ints ow ki ha q b v).2.1 ∧ ((v_put w ca dd q b v).1 = 0 → (v_put w ca dd q b v).2.1 = (m_put qq false ints ow ki ha q b v).1) ∧
    t_R (v_put w ca dd q b v).2.2.1 (v_put w ca dd q b v).2.2.2 dd sq le (m_put qq false ints ow ki ha q b v).2.2.1 mo gr (m_put qq false ints ow ki ha q b v).2.2.2 ow ki na ha mv fr sh := by
  obtain ⟨rfl, hi, L, hI, hm⟩ := hR
  obtain ⟨up, left, cnt⟩ := w
  cases up with
  | false => exact ⟨rfl, fun h => (by cases h), rfl, hi, L, hI, hm⟩
  | true =>
    simp only [v_put, v_pw, m_put, Bool.true_eq_false, if_false, if_true]
    rcases t_tent hI q with ⟨h1, h2⟩ | ⟨A, f, n, B, e, h1, h2, h3, h4, h5, h6⟩
    · simp only [v_T] at h1
      simp only [v_rt, h1, h2, if_true, show nI 0 = (0 : Int32) from rfl]
      exact ⟨rfl, fun h => (by cases h), rfl, hi, L, hI, hm⟩
    · have hI' := hI
      rw [e] at hI'
      obtain ⟨b1, b2, b3, b4, b5, b6, b7, b8, b9, b10, b11⟩ := t_of hI' h1
      simp only [v_T] at h5
      simp only [v_rt, v_T, h5, h6, if_neg b8, if_neg b9, v_rb, b1, b2, b3, b4, if_true]
      by_cases hb0 : b < 0
      · simp only [if_pos hb0]; exact ⟨rfl, fun h => (by cases h), rfl, hi, L, hI, hm⟩
      by_cases hbn : b < nI n
      · simp only [if_neg hb0, if_pos hbn, if_true, v_wb]
        obtain ⟨j, rfl, hj⟩ := z_lt_nat (by omega) hb0 hbn
        obtain ⟨c1, c2⟩ := t_w1 (w := (true, left, cnt)) (sq := sq) (wi := false) rfl
        simp only [Bool.or_false, ite_self] at c1
        rw [c1]
        simp only
        have hmo := t_mid_on hm rfl
        by_cases hp : (pw_write (true, left, cnt)).1 = false
        · simp only [if_pos hp]
          exact ⟨rfl, fun _ => rfl, rfl, hi, L, hI, Or.inl hmo⟩
        · simp only [if_neg hp]
          refine ⟨rfl, fun _ => rfl, rfl, ?_, L, hI, Or.inl hmo⟩
          rw [nI_add, r_set_n _ _ (by omega) (by decide), nI_clamp (by omega)]
          exact t_upd48 hi _ _
      · simp only [if_neg hb0, if_neg hbn]; exact ⟨rfl, fun h => (by cases h), rfl, hi, L, hI, hm⟩
end TR
