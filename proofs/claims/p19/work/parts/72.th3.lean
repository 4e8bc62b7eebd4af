/-! THEORY: what of the other claim serves here -/
theorem z_pl {x y : Int32} {i j : Nat} (e1 : x = nI i) (e2 : y = nI j) : x + y = nI (i + j) := by
  subst e1 e2
  simp only [nI]
  exact (Int32.ofNat_add i j).symm
theorem z_mi {x y : Int32} {i j : Nat} (e1 : x = nI i) (e2 : y = nI j) (h : j ≤ i) : x - y = nI (i - j) := by
  have h1 : nI i = nI (i - j) + nI j := by
    have h2 := z_pl (x := nI (i - j)) (y := nI j) rfl rfl
    rw [h2]; congr 1; omega
  rw [e1, e2, h1, Int32.add_sub_cancel]
theorem t_len_at {A B : tL} {f n : Nat} (hA : ∀ p ∈ A, p.1 ≠ f) (hB : ∀ p ∈ B, p.1 ≠ f) : t_len f (A ++ (f, n) :: B) = n := by
  rw [t_len_app, t_len_no hA]
  simp only [t_len, if_true]
  rw [t_len_no hB]; omega
/-- what runs needs of a list -/
def t_nf (L : tL) : Prop := t_sum L = 48 ∧ (∀ p ∈ L, 1 ≤ p.2 ∧ p.1 ≤ 16) ∧ t_na L ∧ (t_fs L).Nodup
theorem nI_0i {i : Nat} (h : i ≤ 16) : nI i = 0 ↔ i = 0 := by
  rw [show (0 : Int32) = nI 0 from rfl]; exact nI_eq (by omega) (by decide)
theorem t_max (a b : Nat) (ha : a < 2 ^ 31) (hb : b < 2 ^ 31) : i_max (nI a) (nI b) = nI (max a b) := by
  rw [i_max]
  by_cases h : a < b
  · rw [if_pos (nI_lt h hb)]; congr 1; omega
  · rw [if_neg (nI_nlt (by omega) ha)]; congr 1; omega
theorem t_min (a b : Nat) (ha : a < 2 ^ 31) (hb : b < 2 ^ 31) : i_min (nI a) (nI b) = nI (min a b) := by
  rw [i_min]
  by_cases h : b < a
  · rw [if_pos (nI_lt h ha)]; congr 1; omega
  · rw [if_neg (nI_nlt (by omega) hb)]; congr 1; omega
theorem t_find {L A B : tL} {f n : Nat} (p b : Nat → Bool) (hp : ∀ j x, L[j]? = some x → p j = b x.1) (hn : (t_fs L).Nodup) (hf : f ≠ 0) (hb : b f = true) (hu : ∀ i m, (i, m) ∈ L → b i = true → i = f) (e : L = A ++ (f, n) :: B) : z_find p L.length 0 = nI A.length := by
  rcases z_find_0 p L.length with ⟨-, h2⟩ | ⟨j, h1, h2, h3, h4⟩
  · exfalso
    have h5 : L[A.length]? = some (f, n) := by rw [e]; simp
    have h6 := h2 A.length (by rw [e]; simp)
    rw [hp _ _ h5, hb] at h6
    cases h6
  · obtain ⟨⟨i, m⟩, hx⟩ : ∃ x, L[j]? = some x := ⟨L[j], List.getElem?_eq_getElem h1⟩
    rw [hp _ _ hx] at h3
    have h5 := hu i m (List.mem_of_getElem? hx) h3
    subst h5
    obtain ⟨C, D, e2, hC⟩ := t_of_at hx
    have hn2 := hn
    rw [e] at hn2
    have h6 := t_uniq hf hn2 (e.symm.trans e2)
    rw [h2, h6.1, hC]
theorem t_find_no {L : tL} (p b : Nat → Bool) (hp : ∀ j x, L[j]? = some x → p j = b x.1) (hu : ∀ i m, (i, m) ∈ L → b i = false) : z_find p L.length 0 = -1 := by
  rcases z_find_0 p L.length with ⟨h1, -⟩ | ⟨j, h1, -, h3, -⟩
  · exact h1
  · exfalso
    obtain ⟨⟨i, m⟩, hx⟩ : ∃ x, L[j]? = some x := ⟨L[j], List.getElem?_eq_getElem h1⟩
    rw [hp _ _ hx, hu i m (List.mem_of_getElem? hx)] at h3
    cases h3
theorem t_split {L : tL} {f : Nat} (h : f ∈ t_fs L) : f ≠ 0 ∧ ∃ A n B, L = A ++ (f, n) :: B := by
  obtain ⟨h1, n, h2⟩ := t_fs_mem.mp h
  obtain ⟨A, B, e⟩ := List.append_of_mem h2
  exact ⟨h1, A, n, B, e⟩
theorem t_le0 {f : Nat} (h : f < 2 ^ 31) : nI f ≤ 0 ↔ f = 0 := by
  rw [show (0 : Int32) = nI 0 from rfl, nI_leI h (by decide)]; omega
theorem t_eq0 {f : Nat} (h : f < 2 ^ 31) : nI f = 0 ↔ f = 0 := by
  rw [show (0 : Int32) = nI 0 from rfl, nI_eq h (by decide)]
theorem t_fs_len (A : tL) : (t_fs A).length ≤ A.length := by
  induction A with
  | nil => exact Nat.le_refl _
  | cons p r ih => simp only [t_fs, List.length_cons]; split <;> (try simp only [List.length_cons]) <;> omega
def t_raw (M : tL) : Prop := t_sum M = 48 ∧ (∀ p ∈ M, 1 ≤ p.2 ∧ p.1 ≤ 16) ∧ (t_fs M).Nodup
theorem t_raw_nf {M : tL} (h : t_raw M) : t_nf (t_cat [] M) := by
  refine ⟨?_, t_cat_ok (fun p hp => by simp at hp) h.2.1, t_cat_na [] M trivial, ?_⟩
  · rw [t_cat_sum, h.1]; rfl
  · rw [t_cat_fs]; exact h.2.2
theorem t_ex_z (m : Nat) (B : tL) (t : Nat) : t_ex (t_z m ++ B) t = if t < m then 0 else t_ex B (t - m) := by
  by_cases h : m = 0
  · subst h; rw [if_neg (by omega)]; rfl
  · simp only [t_z, if_neg h, List.cons_append, List.nil_append, t_ex]
theorem t_sum_z (m : Nat) : t_sum (t_z m) = m := by
  by_cases h : m = 0
  · subst h; rfl
  · simp only [t_z, if_neg h, t_sum_1]
theorem t_fs_z (m : Nat) : t_fs (t_z m) = [] := by
  by_cases h : m = 0
  · subst h; rfl
  · simp only [t_z, if_neg h]; rfl
theorem t_len_z (m : Nat) : t_len 0 (t_z m) = m := by
  by_cases h : m = 0
  · subst h; rfl
  · simp only [t_z, if_neg h, t_len, if_true, Nat.add_zero]
theorem t_z_ok {m : Nat} : ∀ p ∈ t_z m, 1 ≤ p.2 ∧ p.1 ≤ 16 := by
  intro p hp
  by_cases h : m = 0
  · simp [t_z, h] at hp
  · simp only [t_z, if_neg h, List.mem_singleton] at hp
    subst hp
    simp only; omega
theorem t_z_n (m : Nat) : (t_z m).length ≤ 1 := by
  by_cases h : m = 0
  · simp [t_z, h]
  · simp [t_z, h]
/-- files given up -/
def t_em (S : Nat → Bool) (p : Nat × Nat) : Nat × Nat := if S p.1 = true then (0, p.2) else p
theorem t_em_sum (S : Nat → Bool) (M : tL) : t_sum (M.map (t_em S)) = t_sum M := by
  induction M with
  | nil => rfl
  | cons p r ih =>
    simp only [List.map_cons, t_sum, ih, t_em]
    split <;> rfl
theorem t_em_ex (S : Nat → Bool) (M : tL) (t : Nat) : t_ex (M.map (t_em S)) t = if S (t_ex M t) = true then 0 else t_ex M t := by
  induction M generalizing t with
  | nil =>
    show (0 : Nat) = if S 0 = true then 0 else 0
    cases S 0 <;> rfl
  | cons p r ih =>
    have h : (t_em S p).2 = p.2 := by unfold t_em; split <;> rfl
    simp only [List.map_cons, t_ex, h, ih]
    by_cases h1 : t < p.2
    · simp only [if_pos h1, t_em]
      split <;> rfl
    · simp only [if_neg h1]
theorem t_em_fs (S : Nat → Bool) (M : tL) : t_fs (M.map (t_em S)) = (t_fs M).filter (fun i => !S i) := by
  induction M with
  | nil => rfl
  | cons p r ih =>
    obtain ⟨i, n⟩ := p
    simp only [List.map_cons, t_fs, ih, t_em]
    by_cases hi : i = 0
    · subst hi
      by_cases hs : S 0 = true
      · simp [hs]
      · simp [hs]
    · by_cases hs : S i = true
      · simp [hs, hi]
      · simp [hs, hi]
theorem t_em_ok {S : Nat → Bool} {M : tL} (h : ∀ p ∈ M, 1 ≤ p.2 ∧ p.1 ≤ 16) : ∀ p ∈ M.map (t_em S), 1 ≤ p.2 ∧ p.1 ≤ 16 := by
  intro p hp
  obtain ⟨q, hq, e⟩ := List.mem_map.mp hp
  have h1 := h q hq
  rw [← e]
  unfold t_em
  split
  · simp only; omega
  · exact h1
theorem t_em_len (g : Nat) (hg : g ≠ 0) (M : tL) : t_len 0 (M.map (t_em (fun i => decide (i = g)))) = t_len 0 M + t_len g M := by
  induction M with
  | nil => rfl
  | cons p r ih =>
    obtain ⟨i, n⟩ := p
    simp only [List.map_cons, t_len, ih, t_em, decide_eq_true_eq]
    by_cases h1 : i = g
    · subst h1; simp [hg]; omega
    · simp only [if_neg h1]; omega
theorem t_em_0 (M : tL) : M.map (t_em (fun i => decide (i = 0))) = M := by
  induction M with
  | nil => rfl
  | cons p r ih =>
    obtain ⟨i, n⟩ := p
    rw [List.map_cons, ih]
    unfold t_em
    by_cases h1 : i = 0
    · subst h1; rfl
    · simp [h1]
theorem t_neg1 {k : Nat} (h : k < 2 ^ 31) : ¬ nI k = -1 := fun e => absurd (by rw [e]; decide) (nI_pos h)
theorem t_r48 {f : zA} {a i n : Nat} (h : a + n ≤ 48) (hi : i < n) : r_at 48 f (nI a + nI i) = f (a + i) := by
  rw [nI_add, r_at_n _ (by omega) (by decide)]
theorem t_upd48 {f g : zA} (h : ∀ t, t < 48 → f t = g t) (a : Nat) (v : Int32) : ∀ t, t < 48 → upd f a v t = upd g a v t := by
  intro t ht
  by_cases h1 : t = a
  · subst h1; rw [t_upd_e, t_upd_e]
  · rw [t_upd_n h1, t_upd_n h1, h t ht]
theorem t_len0 (X : tL) : (t_cat [] X).length ≤ X.length := by
  have := t_cat_n [] X
  simpa using this
theorem t_fs_mid {A B : tL} {f n : Nat} (hf : f ≠ 0) : t_fs (A ++ (f, n) :: B) = t_fs A ++ f :: t_fs B := by
  rw [t_fs_app]; simp [t_fs, hf]
theorem t_fs_mid0 {A B : tL} {n : Nat} : t_fs (A ++ (0, n) :: B) = t_fs A ++ t_fs B := by
  rw [t_fs_app]; simp [t_fs]
theorem t_fs_sub {A B : tL} {f n m : Nat} (hf : f ≠ 0) (h : (t_fs (A ++ (f, n) :: B)).Nodup) : (t_fs (A ++ (0, m) :: B)).Nodup := by
  rw [t_fs_mid hf] at h
  rw [t_fs_mid0]
  exact h.sublist (List.Sublist.append (List.Sublist.refl _) (List.sublist_cons_self _ _))
theorem t_mem_mid {A B : tL} {f n x : Nat} (hI : t_wf (A ++ (f, n) :: B)) (hf : f ≠ 0) (hx : x ∈ t_fs (A ++ (f, n) :: B)) : x = f ∨ x ∈ t_fs (A ++ (0, n) :: B) := by
  rw [t_fs_mid hf] at hx
  rw [t_fs_mid0]
  rcases List.mem_append.mp hx with h | h
  · exact Or.inr (List.mem_append_left _ h)
  · rcases List.mem_cons.mp h with h | h
    · exact Or.inl h
    · exact Or.inr (List.mem_append_right _ h)
theorem t_not_mid {A B : tL} {f n m : Nat} (hI : t_wf (A ++ (f, n) :: B)) (hf : f ≠ 0) : ¬ f ∈ t_fs (A ++ (0, m) :: B) := by
  rw [t_fs_mid0]
  intro h
  have h1 := t_wf_no hI hf
  rcases List.mem_append.mp h with h | h
  · obtain ⟨-, k, h2⟩ := t_fs_mem.mp h
    exact h1.1 _ h2 rfl
  · obtain ⟨-, k, h2⟩ := t_fs_mem.mp h
    exact h1.2 _ h2 rfl
theorem t_sub_mid {A B : tL} {f n m x : Nat} (hf : f ≠ 0) (hx : x ∈ t_fs (A ++ (0, m) :: B)) : x ∈ t_fs (A ++ (f, n) :: B) := by
  rw [t_fs_mid0] at hx
  rw [t_fs_mid hf]
  rcases List.mem_append.mp hx with h | h
  · exact List.mem_append_left _ h
  · exact List.mem_append_right _ (List.mem_cons_of_mem _ h)
theorem t_raw_0 {A B : tL} {f n : Nat} (hw : t_wf (A ++ (f, n) :: B)) (hf : f ≠ 0) : t_raw (A ++ (0, n) :: B) := by
  refine ⟨?_, fun p hp => ?_, t_fs_sub hf hw.2.2.2.1⟩
  · rw [t_sum_mid, ← t_sum_mid A B f n]; exact hw.1
  · have hb := t_wf_b hw
    rcases List.mem_append.mp hp with h | h
    · exact hw.2.1 p (List.mem_append_left _ h)
    · rcases List.mem_cons.mp h with h | h
      · rw [h]; simp only; omega
      · exact hw.2.1 p (List.mem_append_right _ (List.mem_cons_of_mem _ h))
/-- close's loop -/
def t_gc (f u g : Nat) (p : Nat × Nat) : tL := if p.1 = f then (f, u) :: t_z (p.2 - u) else if p.1 = g then [(0, p.2)] else [p]
theorem t_dCF {L : tL} {dd : zD} {κ κo : tK} {f u g : Nat} {k nm old : Int32} (hκ : t_ok κ) (hw : t_wf L) (ho : t_dl dd κo L) (hf : f ≠ 0) (hkf : κ f = (2, nm, -1)) (hk : ∀ p ∈ L, p.1 ≠ f → κo p.1 = κ p.1) (hu : ∀ p ∈ L, p.1 = f → u ≤ p.2)
    (Hk : ∀ C p D, L = C ++ p :: D → (nI C.length = k ↔ p.1 = f)) (Ho : ∀ C p D, L = C ++ p :: D → (nI C.length = old ↔ p.1 = g ∧ g ≠ 0)) :
    ∀ (M A X : tL) (d : zD), L = A ++ M → t_dl d κ X → X.length + (M.flatMap (t_gc f u g)).length ≤ 17 → t_dl (v_dCF dd k (nI u) nm old M.length (nI A.length) d) κ (t_cat X (M.flatMap (t_gc f u g)))
  | [], _, _, _, _, h, _ => h
  | (i, n) :: M, A, X, d, e, h, hx => by
    have ho2 := ho
    have hw2 := hw
    rw [e] at ho2 hw2
    obtain ⟨a1, a2, a3, a4⟩ := t_dl_at ho2
    have hb := t_wf_b hw2
    have h1 := Hk A (i, n) M e
    have h2 := Ho A (i, n) M e
    have hmem : (i, n) ∈ L := by rw [e]; simp
    simp only at h1 h2
    rw [List.flatMap_cons, List.length_append] at hx
    rw [List.length_cons, v_dCF, List.flatMap_cons, ← t_cat_app, a2]
    have hs : nI A.length + 1 = nI (A ++ [(i, n)]).length := by rw [← nI_succ]; simp
    have hcl := t_cat_n X (t_gc f u g (i, n))
    have fin : ∀ d', t_dl d' κ (t_cat X (t_gc f u g (i, n))) → t_dl (v_dCF dd k (nI u) nm old M.length (nI A.length + 1) d') κ (t_cat (t_cat X (t_gc f u g (i, n))) (M.flatMap (t_gc f u g))) := by
      intro d' h'
      rw [hs]
      exact t_dCF hκ hw ho hf hkf hk hu Hk Ho M (A ++ [(i, n)]) _ d' (by rw [e]; simp) h' (by omega)
    by_cases hif : i = f
    · rw [if_pos (h1.mpr hif)]
      refine fin _ ?_
      subst hif
      have hun := hu _ hmem rfl
      simp only at hun
      simp only [t_gc, if_true] at hx hcl ⊢
      have hz := t_z_n (n - u)
      simp only [List.length_cons] at hx
      have h5 := t_dl_add (i := i) (n := u) h hκ (by omega)
      rw [hkf] at h5
      have h6 := t_add_n X (i, u)
      rw [z_mi (i := n) (j := u) rfl rfl hun]
      by_cases hz0 : n - u = 0
      · rw [hz0]
        have h8 : t_cat X ((i, u) :: t_z 0) = t_add X (i, u) := rfl
        rw [h8, d_addE, if_pos (by decide)]
        exact h5
      · have h9 : (t_z (n - u)).length = 1 := by simp [t_z, hz0]
        have h7 := t_dl_addE (n := n - u) h5 hκ (by omega) (by omega)
        exact h7
    · rw [if_neg (fun h => hif (h1.mp h))]
      by_cases hig : i = g ∧ g ≠ 0
      · rw [if_pos (h2.mpr hig)]
        refine fin _ ?_
        have h4 : t_gc f u g (i, n) = t_z n := by
          simp only [t_gc, if_neg hif, if_pos hig.1, t_z, show n ≠ 0 by omega, if_false]
        rw [h4] at hx ⊢
        have h9 : (t_z n).length = 1 := by simp [t_z, show n ≠ 0 by omega]
        exact t_dl_addE (n := n) h hκ (by omega) (by omega)
      · rw [if_neg (fun h => hig (h2.mp h))]
        refine fin _ ?_
        have h4 : t_gc f u g (i, n) = [(i, n)] := by
          by_cases h5 : i = g
          · have h6 : g = 0 := Classical.byContradiction (fun h => hig ⟨h5, h⟩)
            simp only [t_gc, if_neg hif, if_pos h5]
            rw [h5, h6]
          · simp only [t_gc, if_neg hif, if_neg h5]
        rw [h4] at hx ⊢
        simp only [List.length_cons, List.length_nil] at hx
        exact t_dl_addR (A := A) (M := [(i, n)]) (B := M) hκ (by simpa using ho2) (fun p hp => hk p (by rw [e]; simp only [List.mem_singleton] at hp; rw [hp]; simp) (by simp only [List.mem_singleton] at hp; rw [hp]; exact hif)) h rfl (by rw [← nI_succ]; rfl) (by simp only [List.length_cons, List.length_nil]; omega)
theorem t_gc_no {f u g : Nat} {M : tL} (h : ∀ p ∈ M, p.1 ≠ f) : M.flatMap (t_gc f u g) = M.map (t_em (fun i => decide (i = g))) := by
  induction M with
  | nil => rfl
  | cons p r ih =>
    rw [List.flatMap_cons, List.map_cons, ih (fun q hq => h q (List.mem_cons_of_mem _ hq))]
    have h1 := h p List.mem_cons_self
    simp only [t_gc, if_neg h1, t_em, decide_eq_true_eq]
    split <;> rfl
theorem t_zf : ∀ (A A' X Y : tL) (n n' : Nat), (∀ p ∈ A, p.1 ≠ 0) → (∀ p ∈ A', p.1 ≠ 0) → A ++ (0, n) :: X = A' ++ (0, n') :: Y → A = A' ∧ n = n' ∧ X = Y
  | [], [], X, Y, n, n', _, _, e => by
    simp only [List.nil_append, List.cons.injEq, Prod.mk.injEq] at e
    exact ⟨rfl, e.1.2, e.2⟩
  | [], q :: A', X, Y, n, n', _, h, e => by
    simp only [List.nil_append, List.cons_append, List.cons.injEq] at e
    exact absurd (by rw [← e.1]) (h q List.mem_cons_self)
  | q :: A, [], X, Y, n, n', h, _, e => by
    simp only [List.nil_append, List.cons_append, List.cons.injEq] at e
    exact absurd (by rw [e.1]) (h q List.mem_cons_self)
  | q :: A, q' :: A', X, Y, n, n', h, h', e => by
    simp only [List.cons_append, List.cons.injEq] at e
    have := t_zf A A' X Y n n' (fun p hp => h p (List.mem_cons_of_mem _ hp)) (fun p hp => h' p (List.mem_cons_of_mem _ hp)) e.2
    exact ⟨by rw [e.1, this.1], this.2⟩
theorem t_raw_mv {A B : tL} {n f m : Nat} (hw : t_wf (A ++ (0, n) :: (f, m) :: B)) (hf : f ≠ 0) : t_raw (A ++ ((f, m) :: (0, n) :: B)) := by
  refine ⟨?_, fun p hp => hw.2.1 p ?_, ?_⟩
  · have := hw.1
    rw [t_sum_mid] at this ⊢
    simp only [t_sum] at this ⊢
    omega
  · simp only [List.mem_append, List.mem_cons] at hp ⊢
    rcases hp with h | h | h | h
    · exact Or.inl h
    · exact Or.inr (Or.inr (Or.inl h))
    · exact Or.inr (Or.inl h)
    · exact Or.inr (Or.inr (Or.inr h))
  · have := hw.2.2.2.1
    rw [t_fs_app] at this ⊢
    simp only [t_fs, if_neg hf, if_true] at this ⊢
    exact this
def t_on (w : zP) : Prop := w.1 = true ∧ w.2.1 = -1
theorem t_on_w {w : zP} (h : t_on w) : (pw_write w).1 = true ∧ t_on (pw_write w).2 := by
  obtain ⟨up, left, cnt⟩ := w
  obtain ⟨h1, h2⟩ := h
  simp only at h1 h2
  subst h1 h2
  have e1 : ¬ (-1 : Int32) = 0 := by decide
  have e2 : (-1 : Int32) ≤ 0 := by decide
  simp only [pw_write, if_neg e1, if_pos e2, Bool.true_eq_false, if_false]
  exact ⟨trivial, rfl, rfl⟩
theorem t_on_ws : ∀ (k : Nat) (w : zP), t_on w → (v_writes k w).1 = true ∧ t_on (v_writes k w).2
  | 0, w, h => ⟨rfl, h⟩
  | k + 1, w, h => by
    obtain ⟨h1, h2⟩ := t_on_w h
    rw [v_writes, if_neg (by rw [h1]; decide)]
    exact t_on_ws k _ h2
theorem t_on_ch {w : zP} {dd ee : zD} (h : t_on w) : (v_change w dd ee).1 = true ∧ t_on (v_change w dd ee).2.1 := by
  obtain ⟨h1, h2⟩ := t_on_ws (v_n ee).toNatClampNeg w h
  rw [v_change, if_neg (by rw [h1]; decide)]
  exact ⟨rfl, h2⟩
theorem t_on_cp {to fr grp : Int32} : ∀ (n : Nat) (i cov : Int32) (t : zT), t_on t.1 → (v_cpF to fr grp n i cov t).1 = true ∧ t_on (v_cpF to fr grp n i cov t).2.1
  | 0, _, _, _, h => ⟨rfl, h⟩
  | n + 1, i, cov, t, h => by
    have hB : ∀ (t : zT), t_on t.1 → (v_cpB t to fr i).1 = true ∧ t_on (v_cpB t to fr i).2.1 := by
      intro t h
      obtain ⟨h1, h2⟩ := t_on_w h
      simp only [v_cpB, v_wb]
      rw [if_neg (by rw [h1]; decide)]
      exact ⟨rfl, h2⟩
    have hL : (v_cpL t i).1 = true ∧ t_on (v_cpL t i).2.1 := by
      obtain ⟨h1, h2⟩ := t_on_w h
      simp only [v_cpL, v_wl]
      rw [if_neg (by rw [h1]; decide)]
      exact ⟨rfl, h2⟩
    rw [v_cpF]
    by_cases hc : cov = 0
    · obtain ⟨b1, b2⟩ := hB ((v_cpL t i).2.1, t.2.1, (v_cpL t i).2.2) hL.2
      rw [if_pos hc, if_neg (by rw [hL.1]; decide), if_neg (by rw [b1]; decide)]
      exact t_on_cp n _ _ _ b2
    · obtain ⟨b1, b2⟩ := hB t h
      rw [if_neg hc, if_neg (by rw [b1]; decide)]
      exact t_on_cp n _ _ _ b2
theorem t_on_mv {v : zV} {g : Int32} (h : t_on v.1) : (v_mv v g).1 = true ∧ t_on (v_mv v g).2.1 := by
  obtain ⟨h1, h2⟩ : (v_cp v.1 v.2.1 v.2.2.1 v.2.2.2.2.1 v.2.2.2.2.2 g).1 = true ∧ t_on (v_cp v.1 v.2.1 v.2.2.1 v.2.2.2.2.1 v.2.2.2.2.2 g).2.1 := t_on_cp _ _ _ (v.1, v.2.1, v.2.2.2.2.1, v.2.2.2.2.2) h
  obtain ⟨h3, h4⟩ := t_on_ch (dd := v.2.2.1) (ee := v_dM v.2.2.1 v.2.2.2.1 g) h2
  rw [v_mv, if_neg (by rw [h1]; decide), if_neg (by rw [h3]; decide)]
  exact ⟨rfl, h4⟩
theorem t_on_ma : ∀ (n : Nat) (cp : Int32) (v : zV), t_on v.1 → t_on (v_maF n cp v).2.1
  | 0, _, _, h => h
  | n + 1, cp, v, h => by
    obtain ⟨h1, h2⟩ := t_on_mv (g := v_gap v) h
    rw [v_maF]
    by_cases hg : v_gap v = -1
    · rw [if_pos hg]; exact h
    · rw [if_neg hg, if_neg (by rw [h1]; decide)]
      exact t_on_ma n _ _ h2
