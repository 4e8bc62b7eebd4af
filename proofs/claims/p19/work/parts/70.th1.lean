/-! THEORY: the directory as a list of (file, length), file 0 = empty -/
abbrev tL : Type := List (Nat × Nat)
def t_sum : tL → Nat
  | [] => 0
  | p :: r => p.2 + t_sum r
def t_ex : tL → Nat → Nat
  | [], _ => 0
  | p :: r, t => if t < p.2 then p.1 else t_ex r (t - p.2)
/-- the blocks of a file together -/
def t_len (q : Nat) : tL → Nat
  | [] => 0
  | p :: r => (if p.1 = q then p.2 else 0) + t_len q r
/-- the files, in their order -/
def t_fs : tL → List Nat
  | [] => []
  | p :: r => if p.1 = 0 then t_fs r else p.1 :: t_fs r
/-- no two empty ones are neighbours -/
def t_na : tL → Prop
  | [] => True
  | [_] => True
  | p :: q :: r => ¬ (p.1 = 0 ∧ q.1 = 0) ∧ t_na (q :: r)
def t_add : tL → Nat × Nat → tL
  | [], p => [p]
  | [q], p => if q.1 = 0 ∧ p.1 = 0 then [(0, q.2 + p.2)] else [q, p]
  | q :: r :: X, p => q :: t_add (r :: X) p
abbrev t_cat (X M : tL) : tL := M.foldl t_add X
abbrev t_z (n : Nat) : tL := if n = 0 then [] else [(0, n)]
theorem t_ind {P : tL → Prop} (L : tL) (h0 : P []) (hs : ∀ A p B, L = A ++ p :: B → P A → P (A ++ [p])) : P L := by
  have h : ∀ B A, L = A ++ B → P A → P L := by
    intro B
    induction B with
    | nil => intro A e h; rw [e, List.append_nil]; exact h
    | cons p r ih => intro A e h; exact ih (A ++ [p]) (by rw [e, List.append_assoc]; rfl) (hs A p r e h)
  exact h L [] rfl h0
theorem t_end (X : tL) : X = [] ∨ ∃ Y q, X = Y ++ [q] := by
  rcases List.eq_nil_or_concat X with h | ⟨Y, q, h⟩
  · exact Or.inl h
  · exact Or.inr ⟨Y, q, by rw [h, List.concat_eq_append]⟩
theorem t_sum_app (A B : tL) : t_sum (A ++ B) = t_sum A + t_sum B := by
  induction A with
  | nil => simp [t_sum]
  | cons p r ih => simp only [List.cons_append, t_sum, ih]; omega
theorem t_sum_1 (i n : Nat) : t_sum [(i, n)] = n := by simp [t_sum]
theorem t_sum_mid (A B : tL) (i n : Nat) : t_sum (A ++ (i, n) :: B) = t_sum A + n + t_sum B := by
  rw [t_sum_app]; simp only [t_sum]; omega
theorem t_sum_s (A : tL) (i n : Nat) : t_sum (A ++ [(i, n)]) = t_sum A + n := by rw [t_sum_app, t_sum_1]
theorem t_len_app (q : Nat) (A B : tL) : t_len q (A ++ B) = t_len q A + t_len q B := by
  induction A with
  | nil => simp [t_len]
  | cons p r ih => simp only [List.cons_append, t_len, ih]; omega
theorem t_len_no {q : Nat} {A : tL} (h : ∀ p ∈ A, p.1 ≠ q) : t_len q A = 0 := by
  induction A with
  | nil => rfl
  | cons p r ih =>
    rw [t_len, if_neg (h p List.mem_cons_self), ih (fun x hx => h x (List.mem_cons_of_mem _ hx))]
theorem t_len_le (q : Nat) (A : tL) : t_len q A ≤ t_sum A := by
  induction A with
  | nil => exact Nat.le_refl _
  | cons p r ih => simp only [t_len, t_sum]; split <;> omega
theorem t_fs_app (A B : tL) : t_fs (A ++ B) = t_fs A ++ t_fs B := by
  induction A with
  | nil => rfl
  | cons p r ih =>
    simp only [List.cons_append, t_fs, ih]
    split <;> rfl
theorem t_fs_mem {f : Nat} {A : tL} : f ∈ t_fs A ↔ f ≠ 0 ∧ ∃ n, (f, n) ∈ A := by
  induction A with
  | nil => simp [t_fs]
  | cons p r ih =>
    obtain ⟨i, m⟩ := p
    simp only [t_fs]
    by_cases h : i = 0
    · subst h
      simp only [if_true, ih, List.mem_cons, Prod.mk.injEq]
      constructor
      · rintro ⟨h1, n, h2⟩; exact ⟨h1, n, Or.inr h2⟩
      · rintro ⟨h1, n, h2 | h2⟩
        · exact absurd h2.1 h1
        · exact ⟨h1, n, h2⟩
    · simp only [if_neg h, List.mem_cons, ih, Prod.mk.injEq]
      constructor
      · rintro (h1 | ⟨h1, n, h2⟩)
        · exact ⟨h1 ▸ h, m, Or.inl ⟨h1, rfl⟩⟩
        · exact ⟨h1, n, Or.inr h2⟩
      · rintro ⟨h1, n, h2 | h2⟩
        · exact Or.inl h2.1
        · exact Or.inr ⟨h1, n, h2⟩
theorem t_ex_app (A B : tL) (t : Nat) : t_ex (A ++ B) t = if t < t_sum A then t_ex A t else t_ex B (t - t_sum A) := by
  induction A generalizing t with
  | nil => simp [t_sum]
  | cons p r ih =>
    simp only [List.cons_append, t_ex, t_sum, ih]
    by_cases h1 : t < p.2
    · have h2 : t < p.2 + t_sum r := by omega
      simp [h1, h2]
    · by_cases h3 : t < p.2 + t_sum r
      · have h4 : t - p.2 < t_sum r := by omega
        simp [h1, h3, h4]
      · have h4 : ¬ t - p.2 < t_sum r := by omega
        have h5 : t - p.2 - t_sum r = t - (p.2 + t_sum r) := by omega
        simp [h1, h3, h4, h5]
theorem t_ex_over {A : tL} {t : Nat} (h : t_sum A ≤ t) : t_ex A t = 0 := by
  induction A generalizing t with
  | nil => rfl
  | cons p r ih =>
    simp only [t_sum] at h
    rw [t_ex, if_neg (by omega), ih (by omega)]
theorem t_loc : ∀ (L : tL) (t : Nat), t < t_sum L → ∃ A i n B, L = A ++ (i, n) :: B ∧ t_sum A ≤ t ∧ t < t_sum A + n
  | [], t, h => by simp [t_sum] at h
  | (i, n) :: r, t, h => by
    simp only [t_sum] at h
    by_cases h1 : t < n
    · exact ⟨[], i, n, r, rfl, Nat.zero_le _, by simpa [t_sum] using h1⟩
    · obtain ⟨A, j, m, B, e, h2, h3⟩ := t_loc r (t - n) (by omega)
      refine ⟨(i, n) :: A, j, m, B, by rw [e]; rfl, ?_, ?_⟩
      · simp only [t_sum]; omega
      · simp only [t_sum]; omega
theorem t_ex_at {A B : tL} {i n t : Nat} (h1 : t_sum A ≤ t) (h2 : t < t_sum A + n) : t_ex (A ++ (i, n) :: B) t = i := by
  rw [t_ex_app, if_neg (by omega)]
  simp only [t_ex]
  rw [if_pos (by omega)]
theorem t_ex_ne {f : Nat} (hf : f ≠ 0) {A : tL} (h : ∀ p ∈ A, p.1 ≠ f) (t : Nat) : t_ex A t ≠ f := by
  induction A generalizing t with
  | nil => exact fun e => hf e.symm
  | cons p r ih =>
    rw [t_ex]
    split
    · exact h p List.mem_cons_self
    · exact ih (fun x hx => h x (List.mem_cons_of_mem _ hx)) _
/-- where a file lies -/
theorem t_ex_iff {A B : tL} {f n : Nat} (hf : f ≠ 0) (hA : ∀ p ∈ A, p.1 ≠ f) (hB : ∀ p ∈ B, p.1 ≠ f) (t : Nat) : t_ex (A ++ (f, n) :: B) t = f ↔ t_sum A ≤ t ∧ t < t_sum A + n := by
  constructor
  · intro h
    rw [t_ex_app] at h
    split at h
    · exact absurd h (t_ex_ne hf hA t)
    · simp only [t_ex] at h
      split at h
      · omega
      · exact absurd h (t_ex_ne hf hB _)
  · rintro ⟨h1, h2⟩; exact t_ex_at h1 h2
theorem t_add_s (X : tL) (q p : Nat × Nat) : t_add (X ++ [q]) p = if q.1 = 0 ∧ p.1 = 0 then X ++ [(0, q.2 + p.2)] else X ++ [q] ++ [p] := by
  induction X with
  | nil => simp only [List.nil_append, t_add]; split <;> rfl
  | cons a r ih =>
    cases r with
    | nil =>
      simp only [List.nil_append, t_add] at ih
      simp only [List.cons_append, List.nil_append, t_add]
      split <;> rfl
    | cons b s =>
      simp only [List.cons_append, t_add] at ih ⊢
      rw [ih]
      split <;> rfl
/-- what an adding does: at the end, or into the last one -/
theorem t_add_or (X : tL) (p : Nat × Nat) : t_add X p = X ++ [p] ∧ (X = [] ∨ ∃ Y q, X = Y ++ [q] ∧ ¬ (q.1 = 0 ∧ p.1 = 0)) ∨ ∃ Y m, X = Y ++ [(0, m)] ∧ p.1 = 0 ∧ t_add X p = Y ++ [(0, m + p.2)] := by
  rcases t_end X with h | ⟨Y, q, h⟩
  · subst h; exact Or.inl ⟨rfl, Or.inl rfl⟩
  · subst h
    rw [t_add_s]
    by_cases h1 : q.1 = 0 ∧ p.1 = 0
    · rw [if_pos h1]
      obtain ⟨a, m⟩ := q
      obtain ⟨h2, h3⟩ := h1
      simp only at h2
      subst h2
      exact Or.inr ⟨Y, m, rfl, h3, rfl⟩
    · rw [if_neg h1]
      exact Or.inl ⟨rfl, Or.inr ⟨Y, q, rfl, h1⟩⟩
theorem t_add_sum (X : tL) (p : Nat × Nat) : t_sum (t_add X p) = t_sum X + p.2 := by
  obtain ⟨i, n⟩ := p
  rcases t_add_or X (i, n) with ⟨e, -⟩ | ⟨Y, m, e1, -, e2⟩
  · rw [e, t_sum_s]
  · rw [e2, e1, t_sum_s, t_sum_s]; simp only; omega
theorem t_add_ex (X : tL) (p : Nat × Nat) (t : Nat) : t_ex (t_add X p) t = t_ex (X ++ [p]) t := by
  rcases t_add_or X p with ⟨e, -⟩ | ⟨Y, m, e1, e0, e2⟩
  · rw [e]
  · obtain ⟨i, n⟩ := p
    simp only at e0 e2
    subst e0
    rw [e2, e1, List.append_assoc, t_ex_app, t_ex_app]
    split
    · rfl
    · simp only [t_ex, List.cons_append, List.nil_append]
      repeat' split
      all_goals rfl
theorem t_add_len (q : Nat) (X : tL) (p : Nat × Nat) : t_len q (t_add X p) = t_len q X + t_len q [p] := by
  rcases t_add_or X p with ⟨e, -⟩ | ⟨Y, m, e1, e0, e2⟩
  · rw [e, t_len_app]
  · obtain ⟨i, n⟩ := p
    simp only at e0 e2
    subst e0
    rw [e2, e1, t_len_app, t_len_app]
    simp only [t_len]
    split <;> omega
theorem t_add_fs (X : tL) (p : Nat × Nat) : t_fs (t_add X p) = t_fs X ++ t_fs [p] := by
  rcases t_add_or X p with ⟨e, -⟩ | ⟨Y, m, e1, e0, e2⟩
  · rw [e, t_fs_app]
  · obtain ⟨i, n⟩ := p
    simp only at e0 e2
    subst e0
    rw [e2, e1, t_fs_app, t_fs_app]
    simp [t_fs]
theorem t_add_n (X : tL) (p : Nat × Nat) : (t_add X p).length ≤ X.length + 1 := by
  rcases t_add_or X p with ⟨e, -⟩ | ⟨Y, m, e1, e0, e2⟩
  · rw [e]; simp
  · rw [e2, e1]; simp
theorem t_na_s : ∀ (X : tL) (q p : Nat × Nat), t_na (X ++ [q]) → ¬ (q.1 = 0 ∧ p.1 = 0) → t_na (X ++ [q] ++ [p])
  | [], q, p, _, h => ⟨h, trivial⟩
  | [a], q, p, h1, h => ⟨h1.1, h, trivial⟩
  | a :: b :: X, q, p, h1, h => ⟨h1.1, t_na_s (b :: X) q p h1.2 h⟩
theorem t_na_ids : ∀ (X : tL) (q p : Nat × Nat), q.1 = p.1 → t_na (X ++ [q]) → t_na (X ++ [p])
  | [], _, _, _, _ => trivial
  | [a], q, p, h, h1 => ⟨by rw [← h]; exact h1.1, trivial⟩
  | a :: b :: X, q, p, h, h1 => ⟨h1.1, t_na_ids (b :: X) q p h h1.2⟩
theorem t_na_at : ∀ (A : tL) (p q : Nat × Nat) (B : tL), t_na (A ++ p :: q :: B) → ¬ (p.1 = 0 ∧ q.1 = 0)
  | [], p, q, B, h => h.1
  | [a], p, q, B, h => t_na_at [] p q B h.2
  | a :: b :: A, p, q, B, h => t_na_at (b :: A) p q B h.2
theorem t_add_na (X : tL) (p : Nat × Nat) (h : t_na X) : t_na (t_add X p) := by
  rcases t_add_or X p with ⟨e, e1 | ⟨Y, q, e1, e2⟩⟩ | ⟨Y, m, e1, e0, e2⟩
  · rw [e, e1]; exact trivial
  · rw [e, e1]; rw [e1] at h; exact t_na_s Y q p h e2
  · rw [e2]; rw [e1] at h; exact t_na_ids Y (0, m) (0, m + p.2) rfl h
theorem t_add_mem {X : tL} {p : Nat × Nat} {P : Nat × Nat → Prop} (h : ∀ q ∈ X, P q) (hp : P p) (hm : ∀ m, P (0, m) → p.1 = 0 → P (0, m + p.2)) : ∀ q ∈ t_add X p, P q := by
  intro q hq
  rcases t_add_or X p with ⟨e, -⟩ | ⟨Y, m, e1, e0, e2⟩
  · rw [e] at hq
    rcases List.mem_append.mp hq with h1 | h1
    · exact h q h1
    · rw [List.mem_singleton.mp h1]; exact hp
  · rw [e2] at hq
    rcases List.mem_append.mp hq with h1 | h1
    · exact h q (by rw [e1]; exact List.mem_append_left _ h1)
    · rw [List.mem_singleton.mp h1]
      exact hm m (h _ (by rw [e1]; exact List.mem_append_right _ List.mem_cons_self)) e0
/-- a row of addings -/
theorem t_cat_cons (X : tL) (p : Nat × Nat) (M : tL) : t_cat X (p :: M) = t_cat (t_add X p) M := rfl
theorem t_cat_app (X M N : tL) : t_cat (t_cat X M) N = t_cat X (M ++ N) := (List.foldl_append ..).symm
theorem t_cat_sum (X M : tL) : t_sum (t_cat X M) = t_sum X + t_sum M := by
  induction M generalizing X with
  | nil => simp [t_sum]
  | cons p r ih => rw [t_cat_cons, ih, t_add_sum, t_sum]; omega
theorem t_cat_len (q : Nat) (X M : tL) : t_len q (t_cat X M) = t_len q X + t_len q M := by
  induction M generalizing X with
  | nil => simp [t_len]
  | cons p r ih => rw [t_cat_cons, ih, t_add_len]; simp only [t_len]; omega
theorem t_cat_fs (X M : tL) : t_fs (t_cat X M) = t_fs X ++ t_fs M := by
  induction M generalizing X with
  | nil => simp [t_fs]
  | cons p r ih =>
    rw [t_cat_cons, ih, t_add_fs, List.append_assoc, ← t_fs_app]; rfl
theorem t_cat_n (X M : tL) : (t_cat X M).length ≤ X.length + M.length := by
  induction M generalizing X with
  | nil => simp
  | cons p r ih =>
    rw [t_cat_cons]
    have h1 := ih (t_add X p)
    have h2 := t_add_n X p
    simp only [List.length_cons]; omega
theorem t_cat_na (X M : tL) (h : t_na X) : t_na (t_cat X M) := by
  induction M generalizing X with
  | nil => exact h
  | cons p r ih => rw [t_cat_cons]; exact ih _ (t_add_na X p h)
theorem t_cat_ex (X M : tL) (t : Nat) : t_ex (t_cat X M) t = t_ex (X ++ M) t := by
  induction M generalizing X with
  | nil => simp
  | cons p r ih =>
    rw [t_cat_cons, ih, t_ex_app, t_add_sum, t_add_ex, show X ++ p :: r = (X ++ [p]) ++ r by simp, t_ex_app (X ++ [p]), t_sum_app]
    obtain ⟨i, n⟩ := p
    rw [t_sum_1]
theorem t_cat_ok {X M : tL} (hX : ∀ p ∈ X, 1 ≤ p.2 ∧ p.1 ≤ 16) (hM : ∀ p ∈ M, 1 ≤ p.2 ∧ p.1 ≤ 16) : ∀ p ∈ t_cat X M, 1 ≤ p.2 ∧ p.1 ≤ 16 := by
  induction M generalizing X with
  | nil => exact hX
  | cons p r ih =>
    rw [t_cat_cons]
    refine ih (t_add_mem hX (hM p List.mem_cons_self) ?_) (fun q hq => hM q (List.mem_cons_of_mem _ hq))
    intro m h1 _
    exact ⟨by simp only at h1 ⊢; omega, by simp only; omega⟩
/-- what holds of a directory -/
def t_wf (L : tL) : Prop := t_sum L = 48 ∧ (∀ p ∈ L, 1 ≤ p.2 ∧ p.1 ≤ 16) ∧ t_na L ∧ (t_fs L).Nodup ∧ L.length ≤ 16
theorem t_nd_at {A B : tL} {f n : Nat} (h : (t_fs (A ++ (f, n) :: B)).Nodup) (hf : f ≠ 0) : (∀ p ∈ A, p.1 ≠ f) ∧ (∀ p ∈ B, p.1 ≠ f) := by
  rw [t_fs_app] at h
  simp only [t_fs, if_neg hf] at h
  rw [List.nodup_append] at h
  obtain ⟨-, h2, h3⟩ := h
  rw [List.nodup_cons] at h2
  constructor
  · intro p hp e
    exact h3 f (t_fs_mem.mpr ⟨hf, p.2, by rw [← e]; exact hp⟩) f List.mem_cons_self rfl
  · intro p hp e
    exact h2.1 (t_fs_mem.mpr ⟨hf, p.2, by rw [← e]; exact hp⟩)
theorem t_wf_no {A B : tL} {f n : Nat} (h : t_wf (A ++ (f, n) :: B)) (hf : f ≠ 0) : (∀ p ∈ A, p.1 ≠ f) ∧ (∀ p ∈ B, p.1 ≠ f) := t_nd_at h.2.2.2.1 hf
/-- neighbours differ -/
theorem t_nbr {A B : tL} {p q : Nat × Nat} (h1 : t_na (A ++ p :: q :: B)) (h2 : (t_fs (A ++ p :: q :: B)).Nodup) : p.1 ≠ q.1 := by
  intro e
  by_cases h0 : p.1 = 0
  · exact t_na_at A p q B h1 ⟨h0, e ▸ h0⟩
  · exact (t_nd_at (f := p.1) (n := p.2) h2 h0).2 q List.mem_cons_self e.symm
theorem t_wf_b {A B : tL} {i n : Nat} (h : t_wf (A ++ (i, n) :: B)) : 1 ≤ n ∧ i ≤ 16 ∧ t_sum A + n + t_sum B = 48 ∧ A.length + B.length + 1 ≤ 16 := by
  have h1 := h.2.1 (i, n) (List.mem_append_right _ List.mem_cons_self)
  have h2 := h.1
  have h3 := h.2.2.2.2
  rw [t_sum_mid] at h2
  simp only [List.length_append, List.length_cons] at h3
  exact ⟨h1.1, h1.2, h2, by omega⟩
/-- the places of a file, once only -/
theorem t_uniq {A B C D : tL} {f n m : Nat} (hf : f ≠ 0) (hw : (t_fs (A ++ (f, n) :: B)).Nodup) (e : A ++ (f, n) :: B = C ++ (f, m) :: D) : A = C ∧ n = m ∧ B = D := by
  have h1 := t_nd_at hw hf
  have h2 : A.length = C.length := by
    rcases Nat.lt_trichotomy A.length C.length with h | h | h
    · exfalso
      rw [e] at hw
      have h3 := t_nd_at hw hf
      have h4 : C[A.length]? = some (f, n) := by
        have h5 : (A ++ (f, n) :: B)[A.length]? = some (f, n) := by simp
        rw [e, List.getElem?_append_left h] at h5
        exact h5
      exact h3.1 _ (List.mem_of_getElem? h4) rfl
    · exact h
    · exfalso
      have h4 : A[C.length]? = some (f, m) := by
        have h5 : (C ++ (f, m) :: D)[C.length]? = some (f, m) := by simp
        rw [← e, List.getElem?_append_left h] at h5
        exact h5
      exact h1.1 _ (List.mem_of_getElem? h4) rfl
  have h3 := List.append_inj e h2
  refine ⟨h3.1, ?_, ?_⟩
  · have h4 := h3.2
    simp only [List.cons.injEq, Prod.mk.injEq] at h4
    exact h4.1.2
  · have h4 := h3.2
    simp only [List.cons.injEq, Prod.mk.injEq] at h4
    exact h4.2
theorem t_at (A B : tL) (p : Nat × Nat) : (A ++ p :: B)[A.length]? = some p := by simp
theorem t_of_at {L : tL} {j : Nat} {p : Nat × Nat} (h : L[j]? = some p) : ∃ A B, L = A ++ p :: B ∧ A.length = j := by
  induction L generalizing j with
  | nil => simp at h
  | cons q r ih =>
    cases j with
    | zero =>
      simp only [List.getElem?_cons_zero, Option.some.injEq] at h
      subst h
      exact ⟨[], r, rfl, rfl⟩
    | succ i =>
      simp only [List.getElem?_cons_succ] at h
      obtain ⟨A, B, e, h1⟩ := ih h
      exact ⟨q :: A, B, by rw [e]; rfl, by simp [h1]⟩
