/-! THEORY: the reference's owners and a list -/
def t_ow (ow : zA) (L : tL) : Prop := ∀ t, t < 48 → ow t = nI (t_ex L t)
theorem t_ow_blk {ow : zA} {A B : tL} {i n : Nat} (h : t_ow ow (A ++ (i, n) :: B)) (hs : t_sum A + n ≤ 48) {t : Nat} (h1 : t_sum A ≤ t) (h2 : t < t_sum A + n) : ow t = nI i := by
  rw [h t (by omega), t_ex_at h1 h2]
theorem m_cnt_blk {f : zA} {x q : Int32} {s : Nat} : ∀ n, (∀ t, s ≤ t → t < s + n → f t = x) → m_cnt f q (s + n) = if x = q then m_cnt f q s + nI n else m_cnt f q s
  | 0, _ => by
    rw [nI_0]; simp
  | n + 1, h => by
    have ih := m_cnt_blk (f := f) (x := x) (q := q) (s := s) n (fun t h1 h2 => h t h1 (by omega))
    rw [← Nat.add_assoc, m_cnt, h (s + n) (by omega) (by omega), ih]
    by_cases hx : x = q
    · simp only [if_pos hx]; rw [nI_succ, Int32.add_assoc]
    · simp only [if_neg hx]
/-- how many blocks a file has in front of a place -/
theorem t_cnt_pre {ow : zA} {L A B : tL} {q : Nat} (hw : t_sum L = 48) (hi : ∀ p ∈ L, p.1 ≤ 16) (ho : t_ow ow L) (hq : q ≤ 16) (e : L = A ++ B) : m_cnt ow (nI q) (t_sum A) = nI (t_len q A) := by
  refine t_ind (P := fun X => m_cnt ow (nI q) (t_sum X) = nI (t_len q X)) A (by rw [t_sum, t_len, nI_0]; rfl) (fun X p Y e2 ih => ?_)
  obtain ⟨i, n⟩ := p
  have e3 : L = X ++ (i, n) :: (Y ++ B) := by rw [e, e2]; simp
  have hs : t_sum X + n ≤ 48 := by rw [e3, t_sum_mid] at hw; omega
  have hi2 : i ≤ 16 := hi (i, n) (by rw [e3]; simp)
  have ho2 : t_ow ow (X ++ (i, n) :: (Y ++ B)) := by rw [← e3]; exact ho
  rw [t_sum_s, m_cnt_blk (x := nI i) n (fun t h1 h2 => t_ow_blk ho2 hs h1 h2), ih, t_len_app]
  simp only [t_len, nI_eq (show i < 2 ^ 31 by omega) (show q < 2 ^ 31 by omega)]
  split
  · rw [nI_add]; rfl
  · rfl
theorem t_cnt {ow : zA} {L : tL} {q : Nat} (hw : t_wf L) (ho : t_ow ow L) (hq : q ≤ 16) : m_cnt ow (nI q) 48 = nI (t_len q L) := by
  have h := t_cnt_pre (A := L) (B := []) hw.1 (fun p hp => (hw.2.1 p hp).2) ho hq (by simp)
  rw [hw.1] at h
  exact h
theorem t_len_at {A B : tL} {f n : Nat} (hA : ∀ p ∈ A, p.1 ≠ f) (hB : ∀ p ∈ B, p.1 ≠ f) : t_len f (A ++ (f, n) :: B) = n := by
  rw [t_len_app, t_len_no hA]
  simp only [t_len, if_true]
  rw [t_len_no hB]; omega
theorem t_cnt_f {ow : zA} {A B : tL} {f n : Nat} (hw : t_wf (A ++ (f, n) :: B)) (ho : t_ow ow (A ++ (f, n) :: B)) (hf : f ≠ 0) : m_cnt ow (nI f) 48 = nI n := by
  have h1 := t_wf_no hw hf
  rw [t_cnt hw ho (t_wf_b hw).2.1, t_len_at h1.1 h1.2]
/-- within the file -/
theorem t_cnt_in {ow : zA} {A B : tL} {f n t : Nat} (hw : t_wf (A ++ (f, n) :: B)) (ho : t_ow ow (A ++ (f, n) :: B)) (hf : f ≠ 0) (h1 : t_sum A ≤ t) (h2 : t < t_sum A + n) : m_cnt ow (nI f) t = nI (t - t_sum A) := by
  have hb := t_wf_b hw
  have h3 := m_cnt_blk (f := ow) (x := nI f) (q := nI f) (s := t_sum A) (t - t_sum A) (fun u h4 h5 => t_ow_blk ho (by omega) h4 (by omega))
  rw [if_pos rfl, show t_sum A + (t - t_sum A) = t by omega] at h3
  rw [h3, t_cnt_pre (B := (f, n) :: B) hw.1 (fun p hp => (hw.2.1 p hp).2) ho hb.2.1 rfl, t_len_no (t_wf_no hw hf).1, nI_add]
  congr 1; omega
theorem t_ow_iff {ow : zA} {A B : tL} {f n t : Nat} (hw : t_wf (A ++ (f, n) :: B)) (ho : t_ow ow (A ++ (f, n) :: B)) (hf : f ≠ 0) (ht : t < 48) : ow t = nI f ↔ t_sum A ≤ t ∧ t < t_sum A + n := by
  have h1 := t_wf_no hw hf
  have hb := t_wf_b hw
  rw [← t_ex_iff hf h1.1 h1.2 t, ho t ht]
  have h2 : t_ex (A ++ (f, n) :: B) t ≤ 16 := by
    obtain ⟨C, i, m, D, e, h3, h4⟩ := t_loc (A ++ (f, n) :: B) t (by rw [hw.1]; exact ht)
    have h5 := hw.2.1 (i, m) (by rw [e]; simp)
    rw [e, t_ex_at h3 h4]
    exact h5.2
  exact nI_eq (by omega) (by omega)
theorem t_ow_le {ow : zA} {L : tL} (hw : t_wf L) (ho : t_ow ow L) (t : Nat) (ht : t < 48) : ∃ q, ow t = nI q ∧ q < 17 := by
  obtain ⟨C, i, m, D, e, h3, h4⟩ := t_loc L t (by rw [hw.1]; exact ht)
  have h5 := hw.2.1 (i, m) (by rw [e]; simp)
  exact ⟨i, by rw [ho t ht, e, t_ex_at h3 h4], by simp only at h5; omega⟩
theorem m_begF_in {ow : zA} {q : Int32} {b n : Nat} (hn : 1 ≤ n) : ∀ (j : Nat) (x : Int32), j ≤ 48 → (∀ t, t < j → (ow t = q ↔ b ≤ t ∧ t < b + n)) → m_begF ow q j x = if j ≤ b then x else nI b
  | 0, x, _, _ => by simp [m_begF]
  | j + 1, x, h, hp => by
    have ih := fun y => m_begF_in (ow := ow) (q := q) (b := b) hn j y (by omega) (fun t ht => hp t (by omega))
    rw [m_begF, ih, ih]
    by_cases h1 : ow j = q
    · have h2 := (hp j (by omega)).mp h1
      rw [if_pos h1, if_neg (show ¬ j + 1 ≤ b by omega)]
      by_cases h3 : j ≤ b
      · rw [if_pos h3, show j = b by omega]
      · rw [if_neg h3]
    · rw [if_neg h1]
      by_cases h3 : j ≤ b
      · by_cases h4 : j + 1 ≤ b
        · rw [if_pos h3, if_pos h4]
        · exact absurd ((hp j (by omega)).mpr ⟨by omega, by omega⟩) h1
      · rw [if_neg h3, if_neg (by omega)]
theorem t_begF {ow : zA} {A B : tL} {f n : Nat} (hw : t_wf (A ++ (f, n) :: B)) (ho : t_ow ow (A ++ (f, n) :: B)) (hf : f ≠ 0) : m_begF ow (nI f) 48 (-1) = nI (t_sum A) := by
  have hb := t_wf_b hw
  rw [m_begF_in (b := t_sum A) (n := n) hb.1 48 (-1) (Nat.le_refl _) (fun t ht => t_ow_iff hw ho hf ht), if_neg (by omega)]
/-! runs -/
theorem m_runF_same {f : zA} {s : Nat} : ∀ n, s + n < 2 ^ 31 → 1 ≤ s → (∀ t, s ≤ t → t < s + n → f t = f (t - 1)) → m_runF f (s + n) = m_runF f s
  | 0, _, _, _ => rfl
  | n + 1, h, hs, hp => by
    have ih := m_runF_same (f := f) (s := s) n (by omega) hs (fun t h1 h2 => hp t h1 (by omega))
    rw [← Nat.add_assoc, m_runF, if_neg (nI_ne0 (by omega) (by omega)), if_pos (hp (s + n) (by omega) (by omega)), ih]
theorem m_runF_blk {f : zA} {s n : Nat} {x : Int32} (hn : 1 ≤ n) (hl : s + n < 2 ^ 31) (hp : ∀ t, s ≤ t → t < s + n → f t = x) (h0 : s = 0 ∨ f (s - 1) ≠ x) : m_runF f (s + n) = m_runF f s + 1 := by
  have h1 : m_runF f (s + 1) = m_runF f s + 1 := by
    rw [m_runF]
    by_cases hs : s = 0
    · subst hs; rw [if_pos nI_0]
    · rw [if_neg (nI_ne0 (by omega) (by omega)), if_neg]
      intro e
      rcases h0 with h0 | h0
      · exact hs h0
      · exact h0 (by rw [← e, hp s (by omega) (by omega)])
  have h2 := m_runF_same (f := f) (s := s + 1) (n - 1) (by omega) (by omega) (fun t h3 h4 => by rw [hp t (by omega) (by omega), hp (t - 1) (by omega) (by omega)])
  rw [show s + 1 + (n - 1) = s + n by omega] at h2
  rw [h2, h1]
/-- what runs needs of a list -/
def t_nf (L : tL) : Prop := t_sum L = 48 ∧ (∀ p ∈ L, 1 ≤ p.2 ∧ p.1 ≤ 16) ∧ t_na L ∧ (t_fs L).Nodup
theorem t_wf_nf {L : tL} (h : t_wf L) : t_nf L := ⟨h.1, h.2.1, h.2.2.1, h.2.2.2.1⟩
theorem t_runs {nx : zA} {L : tL} (h : t_nf L) (ho : t_ow nx L) : m_runF nx 48 = nI L.length := by
  rw [← h.1]
  have key : ∀ X B, L = X ++ B → m_runF nx (t_sum X) = nI X.length := by
    intro X B e
    refine t_ind (P := fun X => m_runF nx (t_sum X) = nI X.length) X (by rw [t_sum, List.length_nil, nI_0]; rfl) (fun Y p Z e2 ih => ?_)
    obtain ⟨i, n⟩ := p
    have e3 : L = Y ++ (i, n) :: (Z ++ B) := by rw [e, e2]; simp
    have hw := h.1
    rw [e3, t_sum_mid] at hw
    have hm := h.2.1 (i, n) (by rw [e3]; simp)
    have ho2 : t_ow nx (Y ++ (i, n) :: (Z ++ B)) := by rw [← e3]; exact ho
    rw [t_sum_s, m_runF_blk (x := nI i) hm.1 (by omega) (fun t h1 h2 => t_ow_blk ho2 (by omega) h1 h2) ?_, ih, ← nI_succ]
    · simp
    · rcases t_end Y with hY | ⟨W, q, hY⟩
      · left; rw [hY]; rfl
      · right
        obtain ⟨k, m⟩ := q
        have e4 : L = W ++ (k, m) :: (i, n) :: (Z ++ B) := by rw [e3, hY]; simp
        have hm2 := h.2.1 (k, m) (by rw [e4]; simp)
        have ho3 : t_ow nx (W ++ (k, m) :: ((i, n) :: (Z ++ B))) := by rw [← e4]; exact ho
        have hw3 := h.1
        rw [e4, t_sum_mid] at hw3
        rw [hY, t_sum_s, t_ow_blk ho3 (by omega) (by omega) (by omega)]
        intro e5
        have h6 := (nI_eq (show k < 2 ^ 31 by omega) (show i < 2 ^ 31 by omega)).mp e5
        exact t_nbr (A := W) (p := (k, m)) (q := (i, n)) (B := Z ++ B) (by rw [← e4]; exact h.2.2.1) (by rw [← e4]; exact h.2.2.2) h6
  exact key L [] (by simp)
theorem m_rfF_blk {ow : zA} {a n : Nat} (hn : a + n ≤ 48) (hp : ∀ t, a ≤ t → t < a + n → ow t = ow a) (h0 : a + n = 48 ∨ ow (a + n) ≠ ow a) : ∀ k m, m ≤ n → a + m + k = 48 → m_rfF ow a k m = n
  | 0, m, h1, h2 => by rw [m_rfF]; omega
  | k + 1, m, h1, h2 => by
    rw [m_rfF]
    by_cases h3 : m < n
    · rw [if_pos (hp (a + m) (by omega) (by omega))]
      exact m_rfF_blk hn hp h0 k (m + 1) (by omega) (by omega)
    · have h4 : m = n := by omega
      subst h4
      rw [if_neg]
      rcases h0 with h0 | h0
      · omega
      · exact h0
theorem t_rf {ow : zA} {A B : tL} {i n : Nat} (h : t_nf (A ++ (i, n) :: B)) (ho : t_ow ow (A ++ (i, n) :: B)) : m_rf ow (t_sum A) = n := by
  have hw := h.1
  rw [t_sum_mid] at hw
  have hm := h.2.1 (i, n) (by simp)
  simp only at hm
  have ha : ow (t_sum A) = nI i := t_ow_blk ho (by omega) (Nat.le_refl _) (by omega)
  refine m_rfF_blk (by omega) (fun t h1 h2 => by rw [ha]; exact t_ow_blk ho (by omega) h1 h2) ?_ _ 1 hm.1 (by omega)
  cases B with
  | nil => left; simp only [t_sum] at hw; omega
  | cons q C =>
    right
    obtain ⟨k, m⟩ := q
    have hm2 := h.2.1 (k, m) (by simp)
    simp only at hm2
    have ho2 : t_ow ow ((A ++ [(i, n)]) ++ (k, m) :: C) := by simpa using ho
    simp only [t_sum] at hw
    rw [ha, show t_sum A + n = t_sum (A ++ [(i, n)]) by rw [t_sum_s], t_ow_blk ho2 (by rw [t_sum_s]; omega) (Nat.le_refl _) (by omega)]
    intro e
    have h6 := (nI_eq (show k < 2 ^ 31 by omega) (show i < 2 ^ 31 by omega)).mp e
    exact t_nbr (A := A) (p := (i, n)) (q := (k, m)) (B := C) h.2.2.1 h.2.2.2 h6.symm
def t_pos : tL → Nat → List (Nat × Nat)
  | [], _ => []
  | p :: r, a => (a, p.2) :: t_pos r (a + p.2)
theorem t_pos_s (A : tL) (i n a : Nat) : t_pos (A ++ [(i, n)]) a = t_pos A a ++ [(a + t_sum A, n)] := by
  induction A generalizing a with
  | nil => simp [t_pos, t_sum]
  | cons p r ih => simp only [List.cons_append, t_pos, ih, t_sum, Nat.add_assoc]
theorem t_segF {ow : zA} : ∀ (B A : tL) (k : Nat), t_nf (A ++ B) → t_ow ow (A ++ B) → B.length < k → m_segF ow k (t_sum A) = t_pos B (t_sum A)
  | [], A, k, h, _, hk => by
    have hw := h.1
    rw [List.append_nil] at hw
    cases k with
    | zero => omega
    | succ k => rw [m_segF, if_neg (by omega)]; rfl
  | (i, n) :: B, A, k, h, ho, hk => by
    cases k with
    | zero => omega
    | succ k =>
      have hw := h.1
      rw [t_sum_mid] at hw
      have hm := h.2.1 (i, n) (by simp)
      simp only at hm
      simp only [List.length_cons] at hk
      have ih := t_segF (ow := ow) B (A ++ [(i, n)]) k (by simpa using h) (by simpa using ho) (by omega)
      rw [t_sum_s] at ih
      rw [m_segF, if_pos (by omega), t_rf h ho, ih]; rfl
theorem t_nf_len {L : tL} (h : ∀ p ∈ L, 1 ≤ p.2 ∧ p.1 ≤ 16) : L.length ≤ t_sum L := by
  induction L with
  | nil => exact Nat.le_refl _
  | cons p r ih =>
    have h1 := h p List.mem_cons_self
    have h2 := ih (fun q hq => h q (List.mem_cons_of_mem _ hq))
    simp only [List.length_cons, t_sum]; omega
theorem t_segs {ow : zA} {L : tL} (h : t_nf L) (ho : t_ow ow L) : m_segs ow = t_pos L 0 := by
  have h1 := t_nf_len h.2.1
  have h2 := h.1
  exact t_segF L [] 49 h ho (by omega)
theorem t_at_ow {ow : zA} {L A B : tL} (h : t_nf L) (ho : t_ow ow L) (e : L = A ++ B) : m_atF ow A.length = t_sum A := by
  refine t_ind (P := fun X => m_atF ow X.length = t_sum X) A rfl (fun X p Y e2 ih => ?_)
  obtain ⟨i, n⟩ := p
  have e3 : L = X ++ (i, n) :: (Y ++ B) := by rw [e, e2]; simp
  have h' := h
  rw [e3] at h' ho
  have hw := h'.1
  rw [t_sum_mid] at hw
  have hm := h'.2.1 (i, n) (by simp)
  simp only at hm
  rw [List.length_append, List.length_cons, List.length_nil, m_atF, ih, if_pos (by omega), t_rf h' ho, t_sum_s]
/-- a fold over the runs, against one over the class's entries -/
theorem t_fold {α : Type} {ow : zA} {L : tL} (h : t_nf L) (ho : t_ow ow L) (f : α → Nat × Nat → α) (a : α) (P : tL → α → Prop) (h0 : P [] a)
    (hs : ∀ A i n B x, L = A ++ (i, n) :: B → P A x → ow (t_sum A) = nI i → 1 ≤ n → i ≤ 16 → t_sum A + n ≤ 48 → P (A ++ [(i, n)]) (f x (t_sum A, n))) : P L ((m_segs ow).foldl f a) := by
  rw [t_segs h ho]
  refine t_ind (P := fun X => P X ((t_pos X 0).foldl f a)) L h0 (fun X p Y e ih => ?_)
  obtain ⟨i, n⟩ := p
  have h' := h
  rw [e] at h'
  have hw := h'.1
  rw [t_sum_mid] at hw
  have hm := h'.2.1 (i, n) (by simp)
  simp only at hm
  have ho2 := ho
  rw [e] at ho2
  rw [t_pos_s, List.foldl_append, Nat.zero_add]
  exact hs X i n Y _ e ih (t_ow_blk ho2 (by omega) (Nat.le_refl _) (by omega)) hm.1 hm.2 (by omega)
theorem nI_0i {i : Nat} (h : i ≤ 16) : nI i = 0 ↔ i = 0 := by
  rw [show (0 : Int32) = nI 0 from rfl]; exact nI_eq (by omega) (by decide)
/-- the room: the smallest that is long enough -/
theorem t_room {d : zD} {κ : tK} {ow : zA} {L : tL} (hκ : t_ok κ) (h : t_nf L) (ho : t_ow ow L) (hd : t_dl d κ L) (b ra : Int32) :
    (d_room d.1 d.2.1 d.2.2.2.2 b = -1 ∧ m_fit ow b ra = (ra, 99)) ∨
    ∃ A n B, L = A ++ (0, n) :: B ∧ d_room d.1 d.2.1 d.2.2.2.2 b = nI A.length ∧ m_fit ow b ra = (nI (t_sum A), nI n) ∧ ¬ nI n < b := by
  rw [d_room, t_clamp hd]
  have key := t_fold h ho (m_fitS ow b) (ra, 99) (fun X t => (d_roomF d.1 d.2.1 b X.length = -1 ∧ t = (ra, 99)) ∨ ∃ A n B, X = A ++ (0, n) :: B ∧ d_roomF d.1 d.2.1 b X.length = nI A.length ∧ t = (nI (t_sum A), nI n) ∧ ¬ nI n < b) (Or.inl ⟨rfl, rfl⟩) ?_
  · exact key
  intro A i n B x e ih ha hn hi hs
  have hd2 := hd
  rw [e] at hd2
  obtain ⟨a1, a2, -, -⟩ := t_dl_at hd2
  rw [List.length_append, List.length_cons, List.length_nil, d_roomF, a1, a2]
  simp only [m_fitS, ha]
  by_cases h0 : i = 0
  · subst h0
    rw [hκ.1, if_pos rfl]
    simp only [show nI 0 = 0 from rfl, if_true]
    by_cases h1 : nI n < b
    · simp only [if_pos h1]
      rcases ih with ⟨h2, h3⟩ | ⟨C, m, D, e2, h2, h3, h4⟩
      · exact Or.inl ⟨h2, h3⟩
      · exact Or.inr ⟨C, m, D ++ [(0, n)], by rw [e2]; simp, h2, h3, h4⟩
    · simp only [if_neg h1]
      rcases ih with ⟨h2, h3⟩ | ⟨C, m, D, e2, h2, h3, h4⟩
      · right
        rw [h2, h3, if_pos rfl]
        have h5 : ¬ (99 : Int32) ≤ nI n := nI_ge (b := 99) (by omega) (by decide)
        rw [if_neg h5]
        exact ⟨A, n, [], rfl, rfl, rfl, h1⟩
      · right
        have hd3 := hd
        rw [e, e2] at hd3
        have hd4 : t_dl d κ (C ++ (0, m) :: (D ++ (0, n) :: B)) := by simpa using hd3
        obtain ⟨-, b2, -, -⟩ := t_dl_at hd4
        have hl := hd.2.1
        rw [e, e2] at hl
        simp only [List.length_append, List.length_cons] at hl
        have h5 : ¬ d_roomF d.1 d.2.1 b A.length = -1 := by
          rw [h2]; intro h6
          exact absurd (by rw [h6]; decide) (nI_pos (n := C.length) (by omega))
        rw [if_neg h5, h2, b2, h3]
        simp only
        by_cases h6 : nI m ≤ nI n
        · simp only [if_pos h6]
          exact ⟨C, m, D ++ [(0, n)], by rw [e2]; simp, rfl, rfl, h4⟩
        · simp only [if_neg h6]
          exact ⟨A, n, [], rfl, rfl, rfl, h1⟩
  · rw [if_neg (hκ.2 i h0)]
    have h1 : ¬ nI i = 0 := fun h => h0 ((nI_0i hi).mp h)
    simp only [if_neg h1]
    rcases ih with ⟨h2, h3⟩ | ⟨C, m, D, e2, h2, h3, h4⟩
    · exact Or.inl ⟨h2, h3⟩
    · exact Or.inr ⟨C, m, D ++ [(i, n)], by rw [e2]; simp, h2, h3, h4⟩
theorem t_max (a b : Nat) (ha : a < 2 ^ 31) (hb : b < 2 ^ 31) : i_max (nI a) (nI b) = nI (max a b) := by
  rw [i_max]
  by_cases h : a < b
  · rw [if_pos (nI_lt h hb)]; congr 1; omega
  · rw [if_neg (nI_nlt (by omega) ha)]; congr 1; omega
theorem t_min (a b : Nat) (ha : a < 2 ^ 31) (hb : b < 2 ^ 31) : i_min (nI a) (nI b) = nI (min a b) := by
  rw [i_min]
  by_cases h : b < a
  · rw [if_pos (nI_lt h ha)]; congr 1; omega
  · rw [if_neg (nI_nlt (by omega) hb)]; congr 1; omega
/-- the longest and the second -/
theorem t_long {d : zD} {κ : tK} {ow : zA} {L : tL} (hκ : t_ok κ) (h : t_nf L) (ho : t_ow ow L) (hd : t_dl d κ L) :
    ∃ a b : Nat, a ≤ 48 ∧ b ≤ a ∧ m_lonP ow = (nI a, nI b) ∧ d_spareF d.1 d.2.1 L.length = (nI a, nI b) ∧ d_longF d.1 d.2.1 L.length = nI a := by
  refine t_fold h ho (m_lonS ow) (0, 0) (fun X t => ∃ a b : Nat, a ≤ 48 ∧ b ≤ a ∧ t = (nI a, nI b) ∧ d_spareF d.1 d.2.1 X.length = (nI a, nI b) ∧ d_longF d.1 d.2.1 X.length = nI a) ⟨0, 0, by omega, by omega, rfl, rfl, rfl⟩ ?_
  intro A i n B x e ih ha hn hi hs
  obtain ⟨a, b, h1, h2, h3, h4, h5⟩ := ih
  have hd2 := hd
  rw [e] at hd2
  obtain ⟨a1, a2, -, -⟩ := t_dl_at hd2
  have e1 : (if r_at 17 d.1 (nI A.length) = 0 then r_at 17 d.2.1 (nI A.length) else 0) = nI (if i = 0 then n else 0) := by
    rw [a1, a2]
    by_cases h0 : i = 0
    · subst h0; rw [hκ.1, if_pos rfl, if_pos rfl]
    · rw [if_neg (hκ.2 i h0), if_neg h0]; rfl
  have e2 : m_lonN ow (t_sum A, n) = nI (if i = 0 then n else 0) := by
    simp only [m_lonN, ha]
    by_cases h0 : i = 0
    · subst h0; rw [if_pos nI_0, if_pos rfl]
    · rw [if_neg (fun h => h0 ((nI_0i hi).mp h)), if_neg h0]; rfl
  have hw : (if i = 0 then n else 0) ≤ 48 := by split <;> omega
  have e3 : d_longF d.1 d.2.1 (A.length + 1) = i_max (nI a) (nI (if i = 0 then n else 0)) := by
    rw [d_longF, h5, a1, a2]
    by_cases h0 : i = 0
    · subst h0; rw [hκ.1, if_pos rfl, if_pos rfl]
    · rw [if_neg (hκ.2 i h0), if_neg h0, t_max _ _ (by omega) (by omega)]; congr 1; omega
  generalize (if i = 0 then n else 0) = w at e1 e2 e3 hw
  rw [List.length_append, List.length_cons, List.length_nil, e3, d_spareF, h4, e1, m_lonS, e2, h3]
  simp only [t_max a w (by omega) (by omega), t_min w a (by omega) (by omega), t_max b (min w a) (by omega) (by omega), nI_leI (show w < 2 ^ 31 by omega) (show a < 2 ^ 31 by omega), nI_leI (show w < 2 ^ 31 by omega) (show b < 2 ^ 31 by omega)]
  refine ⟨max a w, max b (min w a), by omega, by omega, ?_, rfl, rfl⟩
  by_cases h6 : w ≤ a
  · simp only [if_pos h6]
    by_cases h7 : w ≤ b
    · simp only [if_pos h7]
      rw [show max a w = a by omega, show max b (min w a) = b by omega]
    · simp only [if_neg h7]
      rw [show max a w = a by omega, show max b (min w a) = w by omega]
  · simp only [if_neg h6]
    rw [show max a w = w by omega, show max b (min w a) = a by omega]
/-- the mover -/
theorem m_fmF_app (ow : zA) : ∀ (A B : List (Nat × Nat)) (t : Int32 × Int32 × Int32), m_fmF ow (A ++ B) t = m_fmF ow B (m_fmF ow A t)
  | [], B, t => by simp [m_fmF]
  | s :: A, B, t => by
    rw [List.cons_append, m_fmF, m_fmF]
    by_cases h : t.1 = 0
    · rw [if_pos h, if_pos h]; exact m_fmF_app ow A B _
    · rw [if_neg h, if_neg h]
      cases B with
      | nil => rw [m_fmF]
      | cons b B => rw [m_fmF, if_neg h]
theorem t_fm_skip {ow : zA} {L : tL} (h : t_nf L) (ho : t_ow ow L) (fr sh : Int32) {A B : tL} (e : L = A ++ B) (hz : ∀ p ∈ A, p.1 ≠ 0) : m_fmF ow (t_pos A 0) (0, fr, sh) = (0, fr, sh) := by
  refine t_ind (P := fun X => m_fmF ow (t_pos X 0) (0, fr, sh) = (0, fr, sh)) A rfl (fun X p Y e2 ih => ?_)
  obtain ⟨i, n⟩ := p
  have e3 : L = X ++ (i, n) :: (Y ++ B) := by rw [e, e2]; simp
  have h' := h
  rw [e3] at h' ho
  have hw := h'.1
  rw [t_sum_mid] at hw
  have hm := h'.2.1 (i, n) (by simp)
  simp only at hm
  have ha : ow (t_sum X) = nI i := t_ow_blk ho (by omega) (Nat.le_refl _) (by omega)
  have hi : i ≠ 0 := hz (i, n) (by rw [e2]; simp)
  rw [t_pos_s, m_fmF_app, ih, Nat.zero_add, m_fmF, if_pos rfl, m_fmF]
  simp only [ha]
  rw [if_neg (fun h => hi ((nI_0i hm.2).mp h))]
theorem t_fm_no {ow : zA} {L : tL} (h : t_nf L) (ho : t_ow ow L) (fr sh : Int32) (hz : (∀ p ∈ L, p.1 ≠ 0) ∨ ∃ A n, L = A ++ [(0, n)] ∧ ∀ p ∈ A, p.1 ≠ 0) : m_fm ow fr sh = (0, fr, sh) := by
  rw [m_fm, t_segs h ho]
  rcases hz with hz | ⟨A, n, e, hz⟩
  · exact t_fm_skip h ho fr sh (A := L) (B := []) (by simp) hz
  · have h' := h
    rw [e] at h'
    have hw := h'.1
    rw [t_sum_s] at hw
    rw [e, t_pos_s, m_fmF_app, t_fm_skip h ho fr sh e hz, Nat.zero_add, m_fmF, if_pos rfl, m_fmF]
    simp only
    rw [nI_add, hw, if_pos (show (48 : Int32) ≤ nI 48 by decide)]
    split <;> rfl
theorem t_fm_at {ow : zA} {A B : tL} {n f m : Nat} (h : t_nf (A ++ (0, n) :: (f, m) :: B)) (ho : t_ow ow (A ++ (0, n) :: (f, m) :: B)) (hz : ∀ p ∈ A, p.1 ≠ 0) (hf : f ≠ 0) (fr sh : Int32) : m_fm ow fr sh = (nI f, nI (t_sum A + n), nI n) := by
  have hw := h.1
  rw [t_sum_mid] at hw
  simp only [t_sum] at hw
  have hm := h.2.1 (0, n) (by simp)
  have hm2 := h.2.1 (f, m) (by simp)
  simp only at hm hm2
  have ha : ow (t_sum A) = nI 0 := t_ow_blk ho (by omega) (Nat.le_refl _) (by omega)
  have ho2 : t_ow ow ((A ++ [(0, n)]) ++ (f, m) :: B) := by simpa using ho
  have hb : ow (t_sum A + n) = nI f := by
    rw [show t_sum A + n = t_sum (A ++ [(0, n)]) by rw [t_sum_s]]
    exact t_ow_blk ho2 (by rw [t_sum_s]; omega) (Nat.le_refl _) (by omega)
  rw [m_fm, t_segs h ho]
  have e : t_pos (A ++ (0, n) :: (f, m) :: B) 0 = t_pos A 0 ++ (t_sum A, n) :: (t_sum A + n, m) :: t_pos B (t_sum A + n + m) := by
    have e2 : ∀ (C : tL) (a : Nat), t_pos (C ++ (0, n) :: (f, m) :: B) a = t_pos C a ++ (a + t_sum C, n) :: (a + t_sum C + n, m) :: t_pos B (a + t_sum C + n + m) := by
      intro C
      induction C with
      | nil => intro a; simp [t_pos, t_sum]
      | cons p r ih => intro a; simp only [List.cons_append, t_pos, ih, t_sum, Nat.add_assoc]
    have e3 := e2 A 0
    simpa using e3
  have h48 : ¬ (48 : Int32) ≤ nI (t_sum A + n) := nI_ge (b := 48) (by omega) (by decide)
  have hnf : ¬ nI f = 0 := fun h => hf ((nI_0i hm2.2).mp h)
  rw [e, m_fmF_app, t_fm_skip h ho fr sh (A := A) (B := (0, n) :: (f, m) :: B) rfl hz, m_fmF, if_pos rfl]
  simp only [ha]
  rw [if_pos nI_0, nI_add, if_neg h48, hb, m_fmF, if_neg hnf]
