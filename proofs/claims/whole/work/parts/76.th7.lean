/-! THEORY: the calls that change the directory -/
section TC
variable {w : zP} {ca : zA} {dd ee : zD} {sq : Bool} {le : Int32} {qq : zQ} {mo : Bool} {gr : Int32} {ints ow nx ki na ha : zA} {mv fr sh : Int32} {L : tL}
theorem t_len0 (X : tL) : (t_cat [] X).length ≤ X.length := by
  have := t_cat_n [] X
  simpa using this
/-- the draft out of what lies before an entry, something, and what lies behind it -/
theorem t_draft {κ : tK} {A B M : tL} {p : Nat × Nat} {d2 : zD} {b e1 : Int32} (hκ : t_ok κ) (hd : t_dl dd (t_k ki na ha) (A ++ p :: B)) (hA : ∀ q ∈ A, t_k ki na ha q.1 = κ q.1) (hB : ∀ q ∈ B, t_k ki na ha q.1 = κ q.1)
    (hm : t_dl (d_addR (d_clear ee) dd 0 (nI A.length)) κ (t_cat [] A) → t_dl d2 κ (t_cat (t_cat [] A) M)) (hl : A.length + M.length + B.length ≤ 17) (hb : b = nI A.length + 1) (he : e1 = dd.2.2.2.2) :
    t_dl (d_addR d2 dd b e1) κ (t_cat [] (A ++ (M ++ B))) := by
  have h1 : t_dl (d_addR (d_clear ee) dd 0 (nI A.length)) κ (t_cat [] A) :=
    t_dl_addR (A := []) (M := A) (B := p :: B) hκ (by simpa using hd) hA (t_dl_clear ee κ) rfl (by simp) (by simp; omega)
  have h2 := hm h1
  have h3 := t_len0 (A ++ M)
  simp only [List.length_append] at h3
  have h4 := t_dl_addR (A := A ++ [p]) (M := B) (B := []) (a := b) (b := e1) hκ (by simpa using hd) hB h2 (by rw [hb, ← nI_succ]; simp) (by rw [he, hd.1]; simp; congr 1; omega) (by rw [t_cat_app]; omega)
  rw [t_cat_app, t_cat_app] at h4
  exact h4
theorem t_ex_2 (A B : tL) (i n t : Nat) : t_ex (A ++ (i, n) :: B) t = if t < t_sum A then t_ex A t else if t < t_sum A + n then i else t_ex B (t - (t_sum A + n)) := by
  rw [t_ex_app]
  by_cases h1 : t < t_sum A
  · rw [if_pos h1, if_pos h1]
  · rw [if_neg h1, if_neg h1]
    simp only [t_ex]
    by_cases h2 : t < t_sum A + n
    · rw [if_pos h2, if_pos (by omega)]
    · rw [if_neg h2, if_neg (by omega)]; congr 1; omega
theorem t_cnt0 {q : Int32} {j : Nat} (hj : j ≤ 48) : ¬ m_cnt ow q j < 0 := by
  obtain ⟨n, e, hn⟩ := m_cnt_nat ow q j hj
  rw [e]; exact nI_pos (by omega)
/-- a file's blocks given up: the owners that were laid out -/
theorem t_gv0 {f n : Nat} {A B : tL} (hI : t_I dd ow ki na ha (A ++ (f, n) :: B)) (hf : f ≠ 0) : ∀ t, t < 48 → m_gv ow (m_cp nx ow) (nI f) 0 t = nI (t_ex (A ++ (0, n) :: B) t) := by
  intro t ht
  have h1 := t_ow_iff hI.1 hI.2.1 hf ht
  rw [m_gv, m_gvF, if_pos ht, if_neg (t_cnt0 (by omega)), t_cp_at ht, t_ex_2]
  by_cases h2 : t_sum A ≤ t ∧ t < t_sum A + n
  · rw [if_pos (h1.mpr h2), if_neg (by omega), if_pos h2.2]; rfl
  · rw [if_neg (fun h => h2 (h1.mp h)), hI.2.1 t ht, t_ex_2]
    congr 1
    by_cases h3 : t < t_sum A
    · rw [if_pos h3, if_pos h3]
    · rw [if_neg h3, if_neg h3, if_neg (by omega), if_neg (by omega)]
theorem t_upd_k {ki' na' ha' : zA} {f i : Nat} (h : i ≠ f) (h1 : ∀ j, j ≠ f → ki' j = ki j) (h2 : ∀ j, j ≠ f → na' j = na j) (h3 : ∀ j, j ≠ f → ha' j = ha j) : t_k ki na ha i = t_k ki' na' ha' i := by
  simp only [t_k, h1 i h, h2 i h, h3 i h]
theorem t_fs_mid {A B : tL} {f n : Nat} (hf : f ≠ 0) : t_fs (A ++ (f, n) :: B) = t_fs A ++ f :: t_fs B := by
  rw [t_fs_app]; simp [t_fs, hf]
theorem t_fs_mid0 {A B : tL} {n : Nat} : t_fs (A ++ (0, n) :: B) = t_fs A ++ t_fs B := by
  rw [t_fs_app]; simp [t_fs]
theorem t_fs_sub {A B : tL} {f n m : Nat} (hf : f ≠ 0) (h : (t_fs (A ++ (f, n) :: B)).Nodup) : (t_fs (A ++ (0, m) :: B)).Nodup := by
  rw [t_fs_mid hf] at h
  rw [t_fs_mid0]
  exact h.sublist (List.Sublist.append (List.Sublist.refl _) (List.sublist_cons_self _ _))
theorem t_mem_mid {A B : tL} {f n x : Nat} (hI : t_wf (A ++ (f, n) :: B)) (hf : f ≠ 0) (hx : x ∈ t_fs (A ++ (f, n) :: B)) : x = f ∨ x ∈ t_fs (A ++ (0, n) :: B) := by
  rw [t_fs_mid hf] at hx
  rw [t_fs_mid0]
  rcases List.mem_append.mp hx with h | h
  · exact Or.inr (List.mem_append_left _ h)
  · rcases List.mem_cons.mp h with h | h
    · exact Or.inl h
    · exact Or.inr (List.mem_append_right _ h)
theorem t_not_mid {A B : tL} {f n m : Nat} (hI : t_wf (A ++ (f, n) :: B)) (hf : f ≠ 0) : ¬ f ∈ t_fs (A ++ (0, m) :: B) := by
  rw [t_fs_mid0]
  intro h
  have h1 := t_wf_no hI hf
  rcases List.mem_append.mp h with h | h
  · obtain ⟨-, k, h2⟩ := t_fs_mem.mp h
    exact h1.1 _ h2 rfl
  · obtain ⟨-, k, h2⟩ := t_fs_mem.mp h
    exact h1.2 _ h2 rfl
theorem t_sub_mid {A B : tL} {f n m x : Nat} (hf : f ≠ 0) (hx : x ∈ t_fs (A ++ (0, m) :: B)) : x ∈ t_fs (A ++ (f, n) :: B) := by
  rw [t_fs_mid0] at hx
  rw [t_fs_mid hf]
  rcases List.mem_append.mp hx with h | h
  · exact List.mem_append_left _ h
  · exact List.mem_append_right _ (List.mem_cons_of_mem _ h)
theorem t_ki0 (h : t_fl ki na ha L) {f : Nat} (M : tL) (h1 : ¬ f ∈ t_fs M) (h2 : ∀ x, x ≠ f → (x ∈ t_fs M ↔ x ∈ t_fs L)) : t_fl (upd ki f 0) na ha M := by
  refine ⟨fun x hx hx2 => ?_, fun x hx hx2 h3 => ?_, fun x y hx hx2 hy hy2 h3 h4 h5 => ?_, fun x y hx hx2 hy hy2 h3 h4 h5 => ?_⟩
  · by_cases e : x = f
    · subst e; rw [t_upd_e]; exact ⟨⟨fun h => absurd h h1, fun h => absurd rfl h⟩, Or.inl rfl⟩
    · rw [t_upd_n e, h2 x e]; exact h.1 x hx hx2
  · by_cases e : x = f
    · subst e; rw [t_upd_e] at h3; cases h3
    · rw [t_upd_n e] at h3; exact h.2.1 x hx hx2 h3
  · by_cases e : x = f
    · subst e; rw [t_upd_e] at h3; cases h3
    · by_cases e2 : y = f
      · subst e2; rw [t_upd_e] at h4; cases h4
      · rw [t_upd_n e] at h3; rw [t_upd_n e2] at h4; exact h.2.2.1 x y hx hx2 hy hy2 h3 h4 h5
  · by_cases e : x = f
    · subst e; rw [t_upd_e] at h3; cases h3
    · by_cases e2 : y = f
      · subst e2; rw [t_upd_e] at h4; cases h4
      · rw [t_upd_n e] at h3; rw [t_upd_n e2] at h4; exact h.2.2.2 x y hx hx2 hy hy2 h3 h4 h5
theorem t_raw_0 {A B : tL} {f n : Nat} (hw : t_wf (A ++ (f, n) :: B)) (hf : f ≠ 0) : t_raw (A ++ (0, n) :: B) := by
  refine ⟨?_, fun p hp => ?_, t_fs_sub hf hw.2.2.2.1⟩
  · rw [t_sum_mid, ← t_sum_mid A B f n]; exact hw.1
  · have hb := t_wf_b hw
    rcases List.mem_append.mp hp with h | h
    · exact hw.2.1 p (List.mem_append_left _ h)
    · rcases List.mem_cons.mp h with h | h
      · rw [h]; simp only; omega
      · exact hw.2.1 p (List.mem_append_right _ (List.mem_cons_of_mem _ h))
/-- a file becomes empty -/
theorem t_vanish {A B : tL} {f n : Nat} {left cnt : Int32} (hI : t_I dd ow ki na ha (A ++ (f, n) :: B)) (hf : f ≠ 0) (hi : ∀ t, t < 48 → ca t = ints t) (hmo : mo = false ∧ le = -1) :
    (v_me (true, left, cnt) dd ee (nI A.length)).1 = (m_van (true, left, cnt, sq) false ow nx ki (nI f) f).1 ∧
    t_R (v_me (true, left, cnt) dd ee (nI A.length)).2.1 ca (v_me (true, left, cnt) dd ee (nI A.length)).2.2.1 sq le (m_van (true, left, cnt, sq) false ow nx ki (nI f) f).2.1 mo gr ints
      (m_van (true, left, cnt, sq) false ow nx ki (nI f) f).2.2.1 (m_van (true, left, cnt, sq) false ow nx ki (nI f) f).2.2.2.2 na ha mv fr sh := by
  obtain ⟨b1, b2, b3, b4, b5, b6, b7, b8, b9, b10, b11⟩ := t_of hI hf
  have hno := t_wf_no hI.1 hf
  have hk : ∀ q : Nat × Nat, q.1 ≠ f → t_k ki na ha q.1 = t_k (upd ki f 0) na ha q.1 := fun q hq => t_upd_k hq (fun j hj => t_upd_n hj) (fun _ _ => rfl) (fun _ _ => rfl)
  have hd : t_dl (v_dE dd ee (nI A.length)) (t_k (upd ki f 0) na ha) (t_cat [] (A ++ ([(0, n)] ++ B))) := by
    have hb := t_wf_b hI.1
    refine t_draft (ee := ee) (p := (f, n)) (M := [(0, n)]) (t_k_ok _ _ _) hI.2.2.1 (fun q hq => hk q (hno.1 q hq)) (fun q hq => hk q (hno.2 q hq)) (fun h => ?_) (by simp; omega) rfl rfl
    have h2 := t_len0 A
    have h1 := t_dl_add (i := 0) (n := n) h (t_k_ok _ _ _) (by omega)
    rw [t_k_0] at h1
    rw [b1, Int32.sub_self, d_addE_0]
    exact h1
  have hx := t_gv0 (nx := nx) hI hf
  have hr := t_raw_0 hI.1 hf
  obtain ⟨c1, c2, c3⟩ := t_chg (w := (true, left, cnt)) (dd := dd) (wi := false) (sq := sq) (ow := ow) rfl (fun h => by cases h) hd (t_raw_nf hr) (t_raw_ow hx)
  simp only [v_me, m_van, m_vnx]
  rw [c1]
  simp only
  by_cases hc : (v_change (true, left, cnt) dd (v_dE dd ee (nI A.length))).1 = false
  · simp only [if_pos hc]
    rw [if_pos hc] at c2
    rw [c2]
    exact ⟨(by first | rfl | trivial), rfl, hi, _, hI, Or.inl hmo⟩
  · simp only [if_neg hc]
    rw [if_neg hc] at c2
    rw [c2, b1, b3]
    refine ⟨(by first | rfl | trivial), rfl, hi, _, t_new hr hx hd ?_ ?_, Or.inl hmo⟩
    · have h1 := t_len0 (A ++ ([(0, n)] ++ B))
      have h2 := t_wf_b hI.1
      simp only [List.length_append, List.length_cons, List.length_nil] at h1
      have h3 : (t_cat [] (A ++ (0, n) :: B)).length = (t_cat [] (A ++ ([(0, n)] ++ B))).length := rfl
      omega
    · refine t_ki0 hI.2.2.2 _ (t_not_mid hI.1 hf) (fun x hx => ⟨fun h => t_sub_mid hf h, fun h => (t_mem_mid hI.1 hf h).resolve_left hx⟩)
theorem t_purge (hR : t_R w ca dd sq le qq mo gr ints ow ki na ha mv fr sh) (q : Int32) : k_map [1, 4] (v_purge w dd ee q).1 = (m_purge qq false ow nx ki ha q).2.1 ∧ ((v_purge w dd ee q).1 = 0 → (v_purge w dd ee q).2.1 = (m_purge qq false ow nx ki ha q).1) ∧
    t_R (v_purge w dd ee q).2.2.1 ca (v_purge w dd ee q).2.2.2.1 sq le (m_purge qq false ow nx ki ha q).2.2.1 mo gr ints (m_purge qq false ow nx ki ha q).2.2.2.1 (m_purge qq false ow nx ki ha q).2.2.2.2.2 na ha mv fr sh := by
  obtain ⟨rfl, hi, L, hI, hm⟩ := hR
  obtain ⟨up, left, cnt⟩ := w
  cases up with
  | false => exact ⟨rfl, fun h => (by cases h), rfl, hi, L, hI, hm⟩
  | true =>
    simp only [v_purge, v_pw, m_purge, Bool.true_eq_false, if_false, if_true]
    rcases t_tent hI q with ⟨h1, h2⟩ | ⟨A, f, n, B, e, h1, h2, h3, h4, h5, h6⟩
    · simp only [v_T] at h1
      simp only [v_rt, h1, h2, if_true, show nI 0 = (0 : Int32) from rfl]
      exact ⟨rfl, fun h => (by cases h), rfl, hi, L, hI, hm⟩
    · subst e
      have hb := t_of hI h1
      simp only [v_T] at h5
      simp only [v_rt, v_T, h5, h6, if_neg hb.2.2.2.2.2.2.2.1, if_neg hb.2.2.2.2.2.2.2.2.1, if_true]
      have h7 := t_vanish (ca := ca) (ee := ee) (sq := sq) (nx := nx) (gr := gr) (mv := mv) (fr := fr) (sh := sh) (left := left) (cnt := cnt) hI h1 hi (t_mid_on hm rfl)
      exact ⟨rfl, fun _ => h7.1, h7.2⟩
theorem t_delete (hR : t_R w ca dd sq le qq mo gr ints ow ki na ha mv fr sh) (q : Int32) : k_map [1, 4] (v_delete w dd ee q).1 = (m_delete qq false ow nx ki na q).2.1 ∧ ((v_delete w dd ee q).1 = 0 → (v_delete w dd ee q).2.1 = (m_delete qq false ow nx ki na q).1) ∧
    t_R (v_delete w dd ee q).2.2.1 ca (v_delete w dd ee q).2.2.2.1 sq le (m_delete qq false ow nx ki na q).2.2.1 mo gr ints (m_delete qq false ow nx ki na q).2.2.2.1 (m_delete qq false ow nx ki na q).2.2.2.2.2 na ha mv fr sh := by
  obtain ⟨rfl, hi, L, hI, hm⟩ := hR
  obtain ⟨up, left, cnt⟩ := w
  cases up with
  | false => exact ⟨rfl, fun h => (by cases h), rfl, hi, L, hI, hm⟩
  | true =>
    simp only [v_delete, v_pw, m_delete, Bool.true_eq_false, if_false, if_true]
    rcases t_perm hI q with ⟨h1, h2⟩ | ⟨A, f, n, B, e, h1, h2, h3, h4, h5, h6⟩
    · simp only [v_P] at h1
      simp only [v_rp, h1, h2, if_true, show nI 0 = (0 : Int32) from rfl]
      exact ⟨rfl, fun h => (by cases h), rfl, hi, L, hI, hm⟩
    · subst e
      have hb := t_of hI h1
      simp only [v_P] at h5
      simp only [v_rp, v_P, h5, h6, if_neg hb.2.2.2.2.2.2.2.1, if_neg hb.2.2.2.2.2.2.2.2.1, if_true]
      have h7 := t_vanish (ca := ca) (ee := ee) (sq := sq) (nx := nx) (gr := gr) (mv := mv) (fr := fr) (sh := sh) (left := left) (cnt := cnt) hI h1 hi (t_mid_on hm rfl)
      exact ⟨rfl, fun _ => h7.1, h7.2⟩
theorem t_nm (q : Int32) : (v_nm q = 0 ∧ m_nm q = true) ∨ (v_nm q = 2 ∧ m_nm q = false) := by
  rw [v_nm, m_nm]
  by_cases h1 : q < 1
  · rw [if_pos h1, if_pos h1]; exact Or.inr ⟨rfl, rfl⟩
  · rw [if_neg h1, if_neg h1]
    by_cases h2 : q ≤ 999
    · rw [if_pos h2, if_neg (by rw [Int32.not_lt]; exact h2)]; exact Or.inl ⟨rfl, rfl⟩
    · rw [if_neg h2, if_pos (by rw [← Int32.not_le]; exact h2)]; exact Or.inr ⟨rfl, rfl⟩
theorem t_rename (hR : t_R w ca dd sq le qq mo gr ints ow ki na ha mv fr sh) (q to : Int32) : k_map [1, 2, 4, 3] (v_rename w dd ee q to).1 = (m_rename qq false ow nx ki na q to).2.1 ∧ ((v_rename w dd ee q to).1 = 0 → (v_rename w dd ee q to).2.1 = (m_rename qq false ow nx ki na q to).1) ∧
    t_R (v_rename w dd ee q to).2.2.1 ca (v_rename w dd ee q to).2.2.2.1 sq le (m_rename qq false ow nx ki na q to).2.2.1 mo gr ints (m_rename qq false ow nx ki na q to).2.2.2.1 ki (m_rename qq false ow nx ki na q to).2.2.2.2.2 ha mv fr sh := by
  obtain ⟨rfl, hi, L, hI, hm⟩ := hR
  obtain ⟨up, left, cnt⟩ := w
  cases up with
  | false => exact ⟨rfl, fun h => (by cases h), rfl, hi, L, hI, hm⟩
  | true =>
    simp only [v_rename, v_pw, m_rename, Bool.true_eq_false, if_false, if_true]
    rcases t_nm to with ⟨n1, n2⟩ | ⟨n1, n2⟩
    case inr =>
      simp only [n1, n2, if_true]
      exact ⟨rfl, fun h => (by cases h), rfl, hi, L, hI, hm⟩
    simp only [n1, n2, Bool.true_eq_false, if_false, if_true]
    rcases t_perm hI q with ⟨h1, h2⟩ | ⟨A, f, n, B, e, h1, h2, h3, h4, h5, h6⟩
    · simp only [v_P] at h1
      simp only [v_rp, h1, h2, if_true, show nI 0 = (0 : Int32) from rfl]
      exact ⟨rfl, fun h => (by cases h), rfl, hi, L, hI, hm⟩
    · have hI0 := hI
      subst e
      obtain ⟨b1, b2, b3, b4, b5, b6, b7, b8, b9, b10, b11⟩ := t_of hI h1
      simp only [v_P] at h5
      simp only [v_rp, v_P, h5, h6, if_neg b8, if_neg b9, if_true]
      rcases t_perm hI to with ⟨g1, g2⟩ | ⟨C, g, m, D, e2, g1, g2, g3, g4, g5, g6⟩
      · simp only [v_P] at g1
        have hle : nI 0 ≤ (0 : Int32) := by decide
        simp only [g1, g2, if_true, if_pos hle]
        have hno := t_wf_no hI.1 h1
        have hk : ∀ q : Nat × Nat, q.1 ≠ f → t_k ki na ha q.1 = t_k ki (upd na f to) ha q.1 := fun q hq => t_upd_k hq (fun _ _ => rfl) (fun j hj => t_upd_n hj) (fun _ _ => rfl)
        have hb := t_wf_b hI.1
        have hd : t_dl (v_dN dd ee (nI A.length) to) (t_k ki (upd na f to) ha) (t_cat [] (A ++ ([(f, n)] ++ B))) := by
          refine t_draft (ee := ee) (p := (f, n)) (M := [(f, n)]) (t_k_ok _ _ _) hI.2.2.1 (fun q hq => hk q (hno.1 q hq)) (fun q hq => hk q (hno.2 q hq)) (fun h => ?_) (by simp; omega) rfl rfl
          have h8 := t_len0 A
          have h7 := t_dl_add (i := f) (n := n) h (t_k_ok _ _ _) (by omega)
          rw [t_k_2 h1 (by rw [h3]; decide), t_upd_e] at h7
          rw [b1, Int32.sub_self, d_addE_0]
          exact h7
        have hr : t_raw (A ++ (f, n) :: B) := ⟨hI.1.1, hI.1.2.1, hI.1.2.2.2.1⟩
        have hnx : ∀ t, t < 48 → m_cp nx ow t = nI (t_ex (A ++ (f, n) :: B) t) := fun t ht => by rw [t_cp_at ht, hI.2.1 t ht]
        obtain ⟨c1, c2, c3⟩ := t_chg (w := (true, left, cnt)) (dd := dd) (wi := false) (sq := sq) (ow := ow) rfl (fun h => by cases h) hd (t_raw_nf hr) (t_raw_ow hnx)
        rw [c1]
        simp only
        by_cases hc : (v_change (true, left, cnt) dd (v_dN dd ee (nI A.length) to)).1 = false
        · simp only [if_pos hc]
          rw [if_pos hc] at c2
          rw [c2]
          exact ⟨rfl, fun _ => (by first | rfl | trivial), rfl, hi, _, hI, Or.inl (t_mid_on hm rfl)⟩
        · simp only [if_neg hc]
          rw [if_neg hc] at c2
          rw [c2]
          refine ⟨rfl, fun _ => (by first | rfl | trivial), rfl, hi, _, t_new hr hnx hd ?_ ?_, Or.inl (t_mid_on hm rfl)⟩
          · have h7 := t_len0 (A ++ (f, n) :: B)
            simp only [List.length_append, List.length_cons] at h7
            omega
          · have hF := hI.2.2.2
            refine ⟨hF.1, hF.2.1, hF.2.2.1, fun x y hx hx2 hy hy2 k1 k2 k3 => ?_⟩
            have hno2 : ∀ z, 1 ≤ z → z ≤ 16 → ki z = 2 → ¬ na z = to := by
              intro z hz hz2 hk2 hna
              rcases m_permF_or ki na to 16 with ⟨-, h9⟩ | ⟨h9, -⟩
              · exact h9 z hz hz2 ⟨hk2, hna⟩
              · rw [show m_permF ki na to 16 = 0 from g2] at h9; omega
            by_cases ex : x = f
            · by_cases ey : y = f
              · rw [ex, ey]
              · subst ex; rw [t_upd_e, t_upd_n ey] at k3; exact absurd k3.symm (hno2 y hy hy2 k2)
            · by_cases ey : y = f
              · subst ey; rw [t_upd_e, t_upd_n ex] at k3; exact absurd k3 (hno2 x hx hx2 k1)
              · rw [t_upd_n ex, t_upd_n ey] at k3; exact hF.2.2.2 x y hx hx2 hy hy2 k1 k2 k3
      · have hI2 := hI0
        rw [e2] at hI2
        have hb2 := t_of hI2 g1
        simp only [v_P] at g5
        have hnle : ¬ nI g ≤ 0 := fun h => g1 ((t_le0 (by omega)).mp h)
        simp only [g5, g6, if_neg hb2.2.2.2.2.2.2.2.1, if_neg hnle]
        exact ⟨rfl, fun h => (by cases h), rfl, hi, _, hI0, hm⟩
end TC
