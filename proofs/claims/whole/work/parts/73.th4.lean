/-! THEORY: the files of both sides -/
def t_fl (ki na ha : zA) (L : tL) : Prop :=
  (∀ f, 1 ≤ f → f ≤ 16 → (f ∈ t_fs L ↔ ki f ≠ 0) ∧ (ki f = 0 ∨ ki f = 1 ∨ ki f = 2)) ∧
  (∀ f, 1 ≤ f → f ≤ 16 → ki f = 1 → ∃ h, h < 4 ∧ ha f = nI h) ∧
  (∀ f g, 1 ≤ f → f ≤ 16 → 1 ≤ g → g ≤ 16 → ki f = 1 → ki g = 1 → ha f = ha g → f = g) ∧
  (∀ f g, 1 ≤ f → f ≤ 16 → 1 ≤ g → g ≤ 16 → ki f = 2 → ki g = 2 → na f = na g → f = g)
def t_I (dd : zD) (ow ki na ha : zA) (L : tL) : Prop := t_wf L ∧ t_ow ow L ∧ t_dl dd (t_k ki na ha) L ∧ t_fl ki na ha L
theorem m_handF_or (ki ha : zA) (q : Int32) : ∀ j, (m_handF ki ha q j = 0 ∧ ∀ i, 1 ≤ i → i ≤ j → ¬ (ki i = 1 ∧ ha i = q)) ∨ (1 ≤ m_handF ki ha q j ∧ m_handF ki ha q j ≤ j ∧ ki (m_handF ki ha q j) = 1 ∧ ha (m_handF ki ha q j) = q)
  | 0 => Or.inl ⟨rfl, fun i h1 h2 => by omega⟩
  | j + 1 => by
    have ih := m_handF_or ki ha q j
    have hs : (¬ (ki (j + 1) = 1 ∧ ha (j + 1) = q) ∧ m_handF ki ha q (j + 1) = m_handF ki ha q j) ∨ (ki (j + 1) = 1 ∧ ha (j + 1) = q ∧ m_handF ki ha q (j + 1) = j + 1) := by
      rw [m_handF]
      by_cases h1 : ki (j + 1) = 1
      · by_cases h2 : ha (j + 1) = q
        · exact Or.inr ⟨h1, h2, by rw [if_pos h1, if_pos h2]⟩
        · exact Or.inl ⟨fun h => h2 h.2, by rw [if_pos h1, if_neg h2]⟩
      · exact Or.inl ⟨fun h => h1 h.1, by rw [if_neg h1]⟩
    rcases hs with ⟨h1, h2⟩ | ⟨h1, h2, h3⟩
    · rw [h2]
      rcases ih with ⟨h3, h4⟩ | ⟨h3, h4, h5⟩
      · refine Or.inl ⟨h3, fun i h5 h6 => ?_⟩
        by_cases h7 : i = j + 1
        · rw [h7]; exact h1
        · exact h4 i h5 (by omega)
      · exact Or.inr ⟨h3, by omega, h5⟩
    · rw [h3]; exact Or.inr ⟨by omega, Nat.le_refl _, h1, h2⟩
theorem m_permF_or (ki na : zA) (q : Int32) : ∀ j, (m_permF ki na q j = 0 ∧ ∀ i, 1 ≤ i → i ≤ j → ¬ (ki i = 2 ∧ na i = q)) ∨ (1 ≤ m_permF ki na q j ∧ m_permF ki na q j ≤ j ∧ ki (m_permF ki na q j) = 2 ∧ na (m_permF ki na q j) = q)
  | 0 => Or.inl ⟨rfl, fun i h1 h2 => by omega⟩
  | j + 1 => by
    have ih := m_permF_or ki na q j
    have hs : (¬ (ki (j + 1) = 2 ∧ na (j + 1) = q) ∧ m_permF ki na q (j + 1) = m_permF ki na q j) ∨ (ki (j + 1) = 2 ∧ na (j + 1) = q ∧ m_permF ki na q (j + 1) = j + 1) := by
      rw [m_permF]
      by_cases h1 : ki (j + 1) = 2
      · by_cases h2 : na (j + 1) = q
        · exact Or.inr ⟨h1, h2, by rw [if_pos h1, if_pos h2]⟩
        · exact Or.inl ⟨fun h => h2 h.2, by rw [if_pos h1, if_neg h2]⟩
      · exact Or.inl ⟨fun h => h1 h.1, by rw [if_neg h1]⟩
    rcases hs with ⟨h1, h2⟩ | ⟨h1, h2, h3⟩
    · rw [h2]
      rcases ih with ⟨h3, h4⟩ | ⟨h3, h4, h5⟩
      · refine Or.inl ⟨h3, fun i h5 h6 => ?_⟩
        by_cases h7 : i = j + 1
        · rw [h7]; exact h1
        · exact h4 i h5 (by omega)
      · exact Or.inr ⟨h3, by omega, h5⟩
    · rw [h3]; exact Or.inr ⟨by omega, Nat.le_refl _, h1, h2⟩
theorem t_find {L A B : tL} {f n : Nat} (p b : Nat → Bool) (hp : ∀ j x, L[j]? = some x → p j = b x.1) (hn : (t_fs L).Nodup) (hf : f ≠ 0) (hb : b f = true) (hu : ∀ i m, (i, m) ∈ L → b i = true → i = f) (e : L = A ++ (f, n) :: B) : z_find p L.length 0 = nI A.length := by
  rcases z_find_0 p L.length with ⟨-, h2⟩ | ⟨j, h1, h2, h3, h4⟩
  · exfalso
    have h5 : L[A.length]? = some (f, n) := by rw [e]; simp
    have h6 := h2 A.length (by rw [e]; simp)
    rw [hp _ _ h5, hb] at h6
    cases h6
  · obtain ⟨⟨i, m⟩, hx⟩ : ∃ x, L[j]? = some x := ⟨L[j], List.getElem?_eq_getElem h1⟩
    rw [hp _ _ hx] at h3
    have h5 := hu i m (List.mem_of_getElem? hx) h3
    subst h5
    obtain ⟨C, D, e2, hC⟩ := t_of_at hx
    have hn2 := hn
    rw [e] at hn2
    have h6 := t_uniq hf hn2 (e.symm.trans e2)
    rw [h2, h6.1, hC]
theorem t_find_no {L : tL} (p b : Nat → Bool) (hp : ∀ j x, L[j]? = some x → p j = b x.1) (hu : ∀ i m, (i, m) ∈ L → b i = false) : z_find p L.length 0 = -1 := by
  rcases z_find_0 p L.length with ⟨h1, -⟩ | ⟨j, h1, -, h3, -⟩
  · exact h1
  · exfalso
    obtain ⟨⟨i, m⟩, hx⟩ : ∃ x, L[j]? = some x := ⟨L[j], List.getElem?_eq_getElem h1⟩
    rw [hp _ _ hx, hu i m (List.mem_of_getElem? hx)] at h3
    cases h3
theorem t_split {L : tL} {f : Nat} (h : f ∈ t_fs L) : f ≠ 0 ∧ ∃ A n B, L = A ++ (f, n) :: B := by
  obtain ⟨h1, n, h2⟩ := t_fs_mem.mp h
  obtain ⟨A, B, e⟩ := List.append_of_mem h2
  exact ⟨h1, A, n, B, e⟩
section TI
variable {dd : zD} {ow ki na ha : zA} {L : tL}
theorem t_I_id (h : t_I dd ow ki na ha L) {i n : Nat} (hm : (i, n) ∈ L) (hi : i ≠ 0) : 1 ≤ i ∧ i ≤ 16 ∧ ki i ≠ 0 ∧ (ki i = 1 ∨ ki i = 2) := by
  have h1 := (h.1.2.1 _ hm).2
  simp only at h1
  have h2 := h.2.2.2.1 i (by omega) h1
  have h3 := h2.1.mp (t_fs_mem.mpr ⟨hi, n, hm⟩)
  exact ⟨by omega, h1, h3, h2.2.resolve_left h3⟩
theorem t_tent (h : t_I dd ow ki na ha L) (q : Int32) :
    (v_T dd q = -1 ∧ m_hand ki ha q = 0) ∨
    ∃ A f n B, L = A ++ (f, n) :: B ∧ f ≠ 0 ∧ f ≤ 16 ∧ ki f = 1 ∧ ha f = q ∧ v_T dd q = nI A.length ∧ m_hand ki ha q = f := by
  have hp : ∀ j x, L[j]? = some x → d_pT dd.1 dd.2.2.2.1 q j = (fun i => decide (i ≠ 0 ∧ ki i = 1 ∧ ha i = q)) x.1 := by
    intro j x hx
    obtain ⟨i, n⟩ := x
    have h1 := h.2.2.1.2.2 j _ hx
    rw [d_pT, r_at_n _ (t_dl_j h.2.2.1 hx) (by decide), r_at_n _ (t_dl_j h.2.2.1 hx) (by decide), h1.1, h1.2.2.2]
    simp only
    by_cases hi : i = 0
    · subst hi; rw [t_k_0]; simp
    · by_cases hk : ki i = 1
      · rw [t_k_1 hi hk]; simp [hi, hk]
      · rw [t_k_2 hi hk]; simp [hk]
  simp only [v_T, d_tent, t_clamp h.2.2.1]
  rcases m_handF_or ki ha q 16 with ⟨h1, h2⟩ | ⟨h1, h2, h3, h4⟩
  · refine Or.inl ⟨t_find_no _ (fun i => decide (i ≠ 0 ∧ ki i = 1 ∧ ha i = q)) hp (fun i m hm => ?_), h1⟩
    simp only [decide_eq_false_iff_not]
    rintro ⟨hi, h5, h6⟩
    have h7 := t_I_id h hm hi
    exact h2 i h7.1 h7.2.1 ⟨h5, h6⟩
  · obtain ⟨f, hf⟩ : ∃ f, f = m_handF ki ha q 16 := ⟨_, rfl⟩
    rw [← hf] at h1 h2 h3 h4
    have h5 := (h.2.2.2.1 f h1 h2).1.mpr (by rw [h3]; decide)
    obtain ⟨h6, A, n, B, e⟩ := t_split h5
    refine Or.inr ⟨A, f, n, B, e, h6, h2, h3, h4, ?_, hf.symm⟩
    refine t_find _ (fun i => decide (i ≠ 0 ∧ ki i = 1 ∧ ha i = q)) hp h.1.2.2.2.1 h6 (by simp [h6, h3, h4]) (fun i m hm hb => ?_) e
    simp only [decide_eq_true_eq] at hb
    have h7 := t_I_id h hm hb.1
    exact h.2.2.2.2.2.1 i f h7.1 h7.2.1 h1 h2 hb.2.1 h3 (by rw [hb.2.2, h4])
theorem t_perm (h : t_I dd ow ki na ha L) (q : Int32) :
    (v_P dd q = -1 ∧ m_perm ki na q = 0) ∨
    ∃ A f n B, L = A ++ (f, n) :: B ∧ f ≠ 0 ∧ f ≤ 16 ∧ ki f = 2 ∧ na f = q ∧ v_P dd q = nI A.length ∧ m_perm ki na q = f := by
  have hp : ∀ j x, L[j]? = some x → d_pP dd.1 dd.2.2.1 q j = (fun i => decide (i ≠ 0 ∧ ki i ≠ 1 ∧ na i = q)) x.1 := by
    intro j x hx
    obtain ⟨i, n⟩ := x
    have h1 := h.2.2.1.2.2 j _ hx
    rw [d_pP, r_at_n _ (t_dl_j h.2.2.1 hx) (by decide), r_at_n _ (t_dl_j h.2.2.1 hx) (by decide), h1.1, h1.2.2.1]
    simp only
    by_cases hi : i = 0
    · subst hi; rw [t_k_0]; simp
    · by_cases hk : ki i = 1
      · rw [t_k_1 hi hk]; simp [hk]
      · rw [t_k_2 hi hk]; simp [hi, hk]
  simp only [v_P, d_perm, t_clamp h.2.2.1]
  have h21 : ∀ i : Nat, ki i = 2 → ki i ≠ 1 := fun i h => by rw [h]; decide
  rcases m_permF_or ki na q 16 with ⟨h1, h2⟩ | ⟨h1, h2, h3, h4⟩
  · refine Or.inl ⟨t_find_no _ (fun i => decide (i ≠ 0 ∧ ki i ≠ 1 ∧ na i = q)) hp (fun i m hm => ?_), h1⟩
    simp only [decide_eq_false_iff_not]
    rintro ⟨hi, h5, h6⟩
    have h7 := t_I_id h hm hi
    exact h2 i h7.1 h7.2.1 ⟨h7.2.2.2.resolve_left h5, h6⟩
  · obtain ⟨f, hf⟩ : ∃ f, f = m_permF ki na q 16 := ⟨_, rfl⟩
    rw [← hf] at h1 h2 h3 h4
    have h5 := (h.2.2.2.1 f h1 h2).1.mpr (by rw [h3]; decide)
    obtain ⟨h6, A, n, B, e⟩ := t_split h5
    refine Or.inr ⟨A, f, n, B, e, h6, h2, h3, h4, ?_, hf.symm⟩
    refine t_find _ (fun i => decide (i ≠ 0 ∧ ki i ≠ 1 ∧ na i = q)) hp h.1.2.2.2.1 h6 (by simp [h6, h21 f h3, h4]) (fun i m hm hb => ?_) e
    simp only [decide_eq_true_eq] at hb
    have h7 := t_I_id h hm hb.1
    exact h.2.2.2.2.2.2 i f h7.1 h7.2.1 h1 h2 (h7.2.2.2.resolve_left hb.2.1) h3 (by rw [hb.2.2, h4])
theorem t_hand_0 (h : t_I dd ow ki na ha L) (q : Int32) : v_T dd q = -1 ↔ m_hand ki ha q = 0 := by
  rcases t_tent h q with ⟨h1, h2⟩ | ⟨A, f, n, B, e, h1, h2, -, -, h5, h6⟩
  · exact ⟨fun _ => h2, fun _ => h1⟩
  · constructor
    · intro h7
      rw [h5] at h7
      have h8 := t_wf_b (by have := h.1; rwa [e] at this)
      exact absurd (by rw [h7]; decide) (nI_pos (n := A.length) (by omega))
    · intro h7; exact absurd (h6.symm.trans h7) h1
theorem t_le0 {f : Nat} (h : f < 2 ^ 31) : nI f ≤ 0 ↔ f = 0 := by
  rw [show (0 : Int32) = nI 0 from rfl, nI_leI h (by decide)]; omega
theorem t_eq0 {f : Nat} (h : f < 2 ^ 31) : nI f = 0 ↔ f = 0 := by
  rw [show (0 : Int32) = nI 0 from rfl, nI_eq h (by decide)]
theorem t_hand_lt (ki ha : zA) (q : Int32) : m_hand ki ha q < 2 ^ 31 := by have := m_hand_17 ki ha q; omega
theorem t_perm_lt (ki na : zA) (q : Int32) : m_perm ki na q < 2 ^ 31 := by have := m_perm_17 ki na q; omega
/-- the least handle that is free -/
theorem t_freeF (h : t_I dd ow ki na ha L) : ∀ k j, (z_findF (fun j => decide (v_T dd (nI j) = -1)) k j = -1 ∧ ∀ i, j ≤ i → i < j + k → m_hand ki ha (nI i) ≠ 0) ∨ (z_findF (fun j => decide (v_T dd (nI j) = -1)) k j = nI (m_fhF ki ha k j) ∧ m_fhF ki ha k j < j + k ∧ m_hand ki ha (nI (m_fhF ki ha k j)) = 0)
  | 0, j => Or.inl ⟨rfl, fun i h1 h2 => by omega⟩
  | k + 1, j => by
    have ih := t_freeF h k (j + 1)
    rw [z_findF, m_fhF]
    by_cases h1 : m_hand ki ha (nI j) = 0
    · have h2 := (t_hand_0 h (nI j)).mpr h1
      right
      rw [if_pos ((t_le0 (t_hand_lt ..)).mpr h1), if_pos (by simp [h2])]
      exact ⟨rfl, by omega, h1⟩
    · have h2 : ¬ v_T dd (nI j) = -1 := fun h3 => h1 ((t_hand_0 h (nI j)).mp h3)
      rw [if_neg (fun h3 => h1 ((t_le0 (t_hand_lt ..)).mp h3)), if_neg (by simp [h2])]
      rcases ih with ⟨h3, h4⟩ | ⟨h3, h4, h5⟩
      · refine Or.inl ⟨h3, fun i h5 h6 => ?_⟩
        by_cases h7 : i = j
        · rw [h7]; exact h1
        · exact h4 i (by omega) (by omega)
      · exact Or.inr ⟨h3, by omega, h5⟩
theorem t_free (h : t_I dd ow ki na ha L) : (d_free dd.1 dd.2.2.2.1 dd.2.2.2.2 = -1 ∧ ∀ i, i < 4 → m_hand ki ha (nI i) ≠ 0) ∨ (d_free dd.1 dd.2.2.2.1 dd.2.2.2.2 = nI (m_fh ki ha) ∧ m_fh ki ha < 4 ∧ m_hand ki ha (nI (m_fh ki ha)) = 0) := by
  rcases t_freeF h 4 0 with ⟨h1, h2⟩ | ⟨h1, h2, h3⟩
  · exact Or.inl ⟨h1, fun i hi => h2 i (Nat.zero_le _) (by omega)⟩
  · exact Or.inr ⟨h1, by simpa [m_fh] using h2, h3⟩
theorem t_many4 (h : t_fl ki na ha L) : ∀ j, j ≤ 16 → m_many ki 1 j = nI ((if m_handF ki ha (nI 0) j = 0 then 0 else 1) + (if m_handF ki ha (nI 1) j = 0 then 0 else 1) + (if m_handF ki ha (nI 2) j = 0 then 0 else 1) + (if m_handF ki ha (nI 3) j = 0 then 0 else 1))
  | 0, _ => by simp [m_handF, m_many, nI_0]
  | j + 1, hj => by
    have ih := t_many4 h j (by omega)
    rw [m_many, ih]
    by_cases hk : ki (j + 1) = 1
    · obtain ⟨a, ha4, hha⟩ := h.2.1 (j + 1) (by omega) hj hk
      have hne : ∀ b, b < 4 → b ≠ a → m_handF ki ha (nI b) (j + 1) = m_handF ki ha (nI b) j := by
        intro b hb hba
        rw [m_handF, if_pos hk, hha, if_neg (fun h => hba ((nI_eq (by omega) (by omega)).mp h).symm)]
      have heq : m_handF ki ha (nI a) (j + 1) = j + 1 := by rw [m_handF, if_pos hk, if_pos hha]
      have h0 : m_handF ki ha (nI a) j = 0 := by
        rcases m_handF_or ki ha (nI a) j with ⟨h1, -⟩ | ⟨h1, h2, h3, h4⟩
        · exact h1
        · have := h.2.2.1 _ (j + 1) h1 (by omega) (by omega) hj h3 hk (by rw [h4, hha])
          omega
      rw [if_pos hk, ← nI_succ]
      have hc : a = 0 ∨ a = 1 ∨ a = 2 ∨ a = 3 := by omega
      rcases hc with hc | hc | hc | hc
      all_goals subst hc
      · rw [hne 1 (by omega) (by omega), hne 2 (by omega) (by omega), hne 3 (by omega) (by omega), heq, h0]; congr 1; simp; omega
      · rw [hne 0 (by omega) (by omega), hne 2 (by omega) (by omega), hne 3 (by omega) (by omega), heq, h0]; congr 1; simp; omega
      · rw [hne 0 (by omega) (by omega), hne 1 (by omega) (by omega), hne 3 (by omega) (by omega), heq, h0]; congr 1; simp; omega
      · rw [hne 0 (by omega) (by omega), hne 1 (by omega) (by omega), hne 2 (by omega) (by omega), heq, h0]; congr 1
    · have hne : ∀ b, m_handF ki ha b (j + 1) = m_handF ki ha b j := fun b => by rw [m_handF, if_neg hk]
      rw [if_neg hk, hne, hne, hne, hne]
theorem t_full (h : t_I dd ow ki na ha L) : d_free dd.1 dd.2.2.2.1 dd.2.2.2.2 = -1 ↔ m_many ki 1 16 = 4 := by
  rw [t_many4 h.2.2.2 16 (Nat.le_refl _), show (4 : Int32) = nI 4 from rfl]
  have e : ∀ b, m_handF ki ha b 16 = m_hand ki ha b := fun _ => rfl
  simp only [e]
  constructor
  · intro h1
    rcases t_free h with ⟨-, h2⟩ | ⟨h2, h3, -⟩
    · rw [if_neg (h2 0 (by omega)), if_neg (h2 1 (by omega)), if_neg (h2 2 (by omega)), if_neg (h2 3 (by omega))]
    · rw [h2] at h1
      exact absurd (by rw [h1]; decide) (nI_pos (n := m_fh ki ha) (by omega))
  · intro h1
    rcases t_free h with ⟨h2, -⟩ | ⟨h2, h3, h4⟩
    · exact h2
    · exfalso
      have h5 := (nI_eq (by repeat' split
                            all_goals decide) (by decide)).mp h1
      have hc : m_fh ki ha = 0 ∨ m_fh ki ha = 1 ∨ m_fh ki ha = 2 ∨ m_fh ki ha = 3 := by omega
      rcases hc with hc | hc | hc | hc
      all_goals (rw [hc] at h4; rw [if_pos h4] at h5; repeat' split at h5)
      all_goals omega
/-- how many of a kind -/
def t_cj (ki : zA) (q : Int32) (j : Nat) : List Nat → Nat
  | [] => 0
  | a :: r => (if a ≤ j ∧ ki a = q then 1 else 0) + t_cj ki q j r
theorem t_cj_s {q : Int32} {j : Nat} : ∀ {S : List Nat}, S.Nodup → t_cj ki q (j + 1) S = t_cj ki q j S + if ki (j + 1) = q ∧ j + 1 ∈ S then 1 else 0
  | [], _ => by simp [t_cj]
  | a :: r, hn => by
    rw [List.nodup_cons] at hn
    have ih := t_cj_s (q := q) (j := j) hn.2
    simp only [t_cj, ih]
    by_cases ha : a = j + 1
    · subst ha
      have h1 : ¬ (ki (j + 1) = q ∧ j + 1 ∈ r) := fun h => hn.1 h.2
      have h2 : ¬ (j + 1 ≤ j ∧ ki (j + 1) = q) := fun h => by omega
      rw [if_neg h1, if_neg h2]
      by_cases h3 : ki (j + 1) = q
      · rw [if_pos ⟨Nat.le_refl _, h3⟩, if_pos ⟨h3, List.mem_cons_self⟩]; omega
      · rw [if_neg (fun h => h3 h.2), if_neg (fun h => h3 h.1)]; omega
    · have h1 : (a ≤ j + 1 ∧ ki a = q) ↔ (a ≤ j ∧ ki a = q) := by
        constructor
        · rintro ⟨h1, h2⟩; exact ⟨by omega, h2⟩
        · rintro ⟨h1, h2⟩; exact ⟨by omega, h2⟩
      have h2 : j + 1 ∈ a :: r ↔ j + 1 ∈ r := by
        rw [List.mem_cons]
        constructor
        · rintro (h | h)
          · exact absurd h.symm ha
          · exact h
        · exact Or.inr
      simp only [h1, h2]; omega
theorem t_cj_0 {q : Int32} : ∀ {S : List Nat}, (∀ a ∈ S, a ≠ 0) → t_cj ki q 0 S = 0
  | [], _ => rfl
  | a :: r, h => by
    have h1 := h a List.mem_cons_self
    rw [t_cj, if_neg (fun h2 => h1 (by omega)), t_cj_0 (fun b hb => h b (List.mem_cons_of_mem _ hb))]
theorem t_many_cj (h : t_fl ki na ha L) (hn : (t_fs L).Nodup) {q : Int32} (hq : q ≠ 0) : ∀ j, j ≤ 16 → m_many ki q j = nI (t_cj ki q j (t_fs L))
  | 0, _ => by rw [t_cj_0 (fun a ha => (t_fs_mem.mp ha).1), nI_0]; rfl
  | j + 1, hj => by
    rw [m_many, t_many_cj h hn hq j (by omega), t_cj_s hn]
    have h1 := (h.1 (j + 1) (by omega) hj).1
    by_cases hk : ki (j + 1) = q
    · rw [if_pos hk, if_pos ⟨hk, h1.mpr (by rw [hk]; exact hq)⟩, nI_succ]
    · rw [if_neg hk, if_neg (fun h => hk h.1)]; rfl
theorem t_cn_cj (h : t_I dd ow ki na ha L) {q : Int32} (hq : q = 1 ∨ q = 2) : ∀ M : tL, (∀ p ∈ M, p ∈ L) → t_cn (t_k ki na ha) q M = t_cj ki q 16 (t_fs M)
  | [], _ => rfl
  | (i, n) :: M, hm => by
    have ih := t_cn_cj h hq M (fun p hp => hm p (List.mem_cons_of_mem _ hp))
    simp only [t_cn, t_fs, ih]
    by_cases hi : i = 0
    · subst hi
      rw [t_k_0, if_pos rfl]
      rcases hq with hq | hq <;> subst hq <;> simp
    · have h1 := t_I_id h (hm (i, n) List.mem_cons_self) hi
      rw [if_neg hi, t_cj]
      rcases h1.2.2.2 with h2 | h2
      · rw [t_k_1 hi h2, h2]
        rcases hq with hq | hq <;> subst hq <;> simp [h1.2.1]
      · rw [t_k_2 hi (by rw [h2]; decide), h2]
        rcases hq with hq | hq <;> subst hq <;> simp [h1.2.1]
theorem t_many (h : t_I dd ow ki na ha L) {q : Int32} (hq : q = 1 ∨ q = 2) : d_count dd.1 dd.2.2.2.2 q = m_many ki q 16 := by
  have hq0 : q ≠ 0 := by rcases hq with hq | hq <;> subst hq <;> decide
  rw [t_count h.2.2.1, t_many_cj h.2.2.2 h.1.2.2.2.1 hq0 16 (Nat.le_refl _), t_cn_cj h hq L (fun p hp => hp)]
theorem m_ffF_or (ki : zA) : ∀ k f, (f ≤ m_ffF ki k f ∧ m_ffF ki k f < f + k ∧ ki (m_ffF ki k f) = 0) ∨ (∀ i, f ≤ i → i < f + k → ki i ≠ 0)
  | 0, f => Or.inr (fun i h1 h2 => by omega)
  | k + 1, f => by
    rw [m_ffF]
    by_cases h : ki f = 0
    · rw [if_pos h]; exact Or.inl ⟨Nat.le_refl _, by omega, h⟩
    · rw [if_neg h]
      rcases m_ffF_or ki k (f + 1) with ⟨h1, h2, h3⟩ | h1
      · exact Or.inl ⟨by omega, by omega, h3⟩
      · refine Or.inr (fun i h2 h3 => ?_)
        by_cases h4 : i = f
        · rw [h4]; exact h
        · exact h1 i (by omega) (by omega)
theorem t_fs_len (A : tL) : (t_fs A).length ≤ A.length := by
  induction A with
  | nil => exact Nat.le_refl _
  | cons p r ih => simp only [t_fs, List.length_cons]; split <;> (try simp only [List.length_cons]) <;> omega
/-- a file that there isn't, where there is an empty entry -/
theorem t_fre (h : t_I dd ow ki na ha L) {A B : tL} {n : Nat} (e : L = A ++ (0, n) :: B) : 1 ≤ m_ff ki ∧ m_ff ki ≤ 16 ∧ ki (m_ff ki) = 0 := by
  rcases m_ffF_or ki 16 1 with ⟨h1, h2, h3⟩ | h1
  · exact ⟨h1, by simpa [m_ff] using (show m_ffF ki 16 1 ≤ 16 by omega), h3⟩
  · exfalso
    have h2 : (t_fs L).length = (List.range' 1 16).length := by
      refine List.Perm.length_eq ((List.perm_ext_iff_of_nodup h.1.2.2.2.1 (by decide)).mpr (fun a => ?_))
      rw [List.mem_range'_1]
      constructor
      · intro ha
        obtain ⟨h3, m, h4⟩ := t_fs_mem.mp ha
        have h5 := t_I_id h h4 h3
        omega
      · intro ha
        exact (h.2.2.2.1 a (by omega) (by omega)).1.mpr (h1 a (by omega) (by omega))
    have h3 := h.1.2.2.2.2
    have h4 := t_fs_len A
    have h5 := t_fs_len B
    rw [e] at h2 h3
    simp only [t_fs_app, t_fs, if_true, List.length_append, List.length_cons, List.length_range'] at h2 h3
    omega
end TI
