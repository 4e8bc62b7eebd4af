/-! THEORY: the class's directory and a list -/
abbrev tK : Type := Nat → Int32 × Int32 × Int32
/-- kind, name, handle of a file -/
def t_k (ki na ha : zA) : tK := fun f => if f = 0 then (0, 0, -1) else (if ki f = 1 then 1 else 2, na f, if ki f = 1 then ha f else -1)
def t_ok (κ : tK) : Prop := κ 0 = (0, 0, -1) ∧ ∀ i, i ≠ 0 → (κ i).1 ≠ 0
theorem t_k_ok (ki na ha : zA) : t_ok (t_k ki na ha) := by
  refine ⟨by simp [t_k], fun i hi => ?_⟩
  simp only [t_k, if_neg hi]
  split <;> decide
theorem t_k_0 (ki na ha : zA) : t_k ki na ha 0 = (0, 0, -1) := (t_k_ok ki na ha).1
theorem t_k_1 {ki na ha : zA} {f : Nat} (hf : f ≠ 0) (h : ki f = 1) : t_k ki na ha f = (1, na f, ha f) := by simp [t_k, hf, h]
theorem t_k_2 {ki na ha : zA} {f : Nat} (hf : f ≠ 0) (h : ki f ≠ 1) : t_k ki na ha f = (2, na f, -1) := by simp [t_k, hf, h]
def t_dl (d : zD) (κ : tK) (L : tL) : Prop := d.2.2.2.2 = nI L.length ∧ L.length ≤ 17 ∧ ∀ j p, L[j]? = some p → d.1 j = (κ p.1).1 ∧ d.2.1 j = nI p.2 ∧ d.2.2.1 j = (κ p.1).2.1 ∧ d.2.2.2.1 j = (κ p.1).2.2
theorem r_at_n {n j : Nat} (f : zA) (h : j < n) (hn : n < 2 ^ 31) : r_at n f (nI j) = f j := by
  have h1 : (0 : Int32) ≤ nI j := nI_pos' (by omega)
  have h2 : nI j < nI n := nI_lt h hn
  rw [r_at, if_pos ⟨h1, h2⟩, nI_clamp (by omega)]
theorem r_set_n {n j : Nat} (f : zA) (v : Int32) (h : j < n) (hn : n < 2 ^ 31) : r_set n f (nI j) v = upd f j v := by
  have h1 : (0 : Int32) ≤ nI j := nI_pos' (by omega)
  have h2 : nI j < nI n := nI_lt h hn
  rw [r_set, if_pos ⟨h1, h2⟩, nI_clamp (by omega)]
theorem t_dl_j {d : zD} {κ : tK} {L : tL} {j : Nat} {p : Nat × Nat} (h : t_dl d κ L) (hj : L[j]? = some p) : j < 17 := by
  have h1 := (List.getElem?_eq_some_iff.mp hj).1
  have h2 := h.2.1
  omega
theorem t_dl_at {d : zD} {κ : tK} {A B : tL} {i n : Nat} (h : t_dl d κ (A ++ (i, n) :: B)) : r_at 17 d.1 (nI A.length) = (κ i).1 ∧ r_at 17 d.2.1 (nI A.length) = nI n ∧ r_at 17 d.2.2.1 (nI A.length) = (κ i).2.1 ∧ r_at 17 d.2.2.2.1 (nI A.length) = (κ i).2.2 := by
  have h1 := t_at A B (i, n)
  have h2 := t_dl_j h h1
  have h3 := h.2.2 _ _ h1
  rw [r_at_n _ h2 (by decide), r_at_n _ h2 (by decide), r_at_n _ h2 (by decide), r_at_n _ h2 (by decide)]
  exact h3
theorem t_dl_congr {d : zD} {κ κ' : tK} {L : tL} (h : t_dl d κ L) (hk : ∀ p ∈ L, κ' p.1 = κ p.1) : t_dl d κ' L := by
  refine ⟨h.1, h.2.1, fun j p hj => ?_⟩
  rw [hk p (List.mem_of_getElem? hj)]
  exact h.2.2 j p hj
theorem t_dl_clear (d : zD) (κ : tK) : t_dl (d_clear d) κ [] := ⟨rfl, Nat.zero_le _, fun j p h => by simp at h⟩
theorem t_upd_e (f : zA) (m : Nat) (v : Int32) : upd f m v m = v := by simp [upd]
theorem t_upd_n {f : zA} {m j : Nat} {v : Int32} (h : j ≠ m) : upd f m v j = f j := by simp [upd, h]
theorem t_dl_app {d : zD} {κ : tK} {X : tL} {i n : Nat} (h : t_dl d κ X) (hx : X.length + 1 ≤ 17) : t_dl (d_app d (κ i).1 (nI n) (κ i).2.1 (κ i).2.2) κ (X ++ [(i, n)]) := by
  have hc : ¬ (17 : Int32) ≤ d.2.2.2.2 := by
    rw [h.1]; exact nI_ge (b := 17) (by omega) (by decide)
  rw [d_app, if_neg hc, h.1, r_set_n _ _ (by omega) (by decide), r_set_n _ _ (by omega) (by decide), r_set_n _ _ (by omega) (by decide), r_set_n _ _ (by omega) (by decide)]
  refine ⟨by rw [← nI_succ]; simp, by simpa using hx, fun j p hj => ?_⟩
  by_cases h1 : j < X.length
  · rw [List.getElem?_append_left h1] at hj
    have h2 : j ≠ X.length := by omega
    simp only [t_upd_n h2]
    exact h.2.2 j p hj
  · have h2 : j = X.length := by
      have h3 := (List.getElem?_eq_some_iff.mp hj).1
      simp only [List.length_append, List.length_cons, List.length_nil] at h3
      omega
    subst h2
    rw [List.getElem?_concat_length] at hj
    cases hj
    exact ⟨t_upd_e .., t_upd_e .., t_upd_e .., t_upd_e ..⟩
theorem t_dl_add {d : zD} {κ : tK} {X : tL} {i n : Nat} (h : t_dl d κ X) (hκ : t_ok κ) (hx : X.length + 1 ≤ 17) : t_dl (d_add d (κ i).1 (nI n) (κ i).2.1 (κ i).2.2) κ (t_add X (i, n)) := by
  rcases t_end X with hX | ⟨Y, q, hX⟩
  · subst hX
    have h1 : d.2.2.2.2 - 1 < 0 := by rw [h.1]; decide
    have h2 := t_dl_app (i := i) (n := n) h hx
    rw [d_add]
    simp only [h1, if_true]
    rw [show t_add [] (i, n) = [] ++ [(i, n)] from rfl]
    split <;> exact h2
  · obtain ⟨k, m⟩ := q
    have hl : X.length = Y.length + 1 := by rw [hX]; simp
    have e1 : d.2.2.2.2 - 1 = nI Y.length := by rw [h.1, hl]; exact nI_pred _
    have h1 : ¬ d.2.2.2.2 - 1 < 0 := by rw [e1]; exact nI_pos (by omega)
    have hd := h
    rw [hX] at hd
    obtain ⟨a1, a2, -, -⟩ := t_dl_at hd
    rw [← e1] at a1 a2
    by_cases hi : i = 0
    · by_cases hk : k = 0
      · subst hi hk
        rw [hX, t_add_s, if_pos ⟨rfl, rfl⟩, d_add, hκ.1]
        have a3 : r_at 17 d.1 (d.2.2.2.2 - 1) = 0 := by rw [a1, hκ.1]
        rw [if_pos rfl, if_neg h1, if_pos a3, a2, e1, r_set_n _ _ (by omega) (by decide), nI_add]
        refine ⟨by rw [h.1, hX]; simp, by simp; omega, fun j p hj => ?_⟩
        by_cases h2 : j < Y.length
        · have h3 : j ≠ Y.length := by omega
          rw [List.getElem?_append_left h2] at hj
          simp only [t_upd_n h3]
          exact h.2.2 j p (by rw [hX, List.getElem?_append_left h2]; exact hj)
        · have h3 : j = Y.length := by
            have h4 := (List.getElem?_eq_some_iff.mp hj).1
            simp only [List.length_append, List.length_cons, List.length_nil] at h4
            omega
          subst h3
          rw [List.getElem?_concat_length] at hj
          cases hj
          have h4 := h.2.2 Y.length (0, m) (by rw [hX]; exact List.getElem?_concat_length)
          exact ⟨h4.1, t_upd_e .., h4.2.2.1, h4.2.2.2⟩
      · have a3 : ¬ r_at 17 d.1 (d.2.2.2.2 - 1) = 0 := by rw [a1]; exact hκ.2 k hk
        have h2 := t_dl_app (i := i) (n := n) h hx
        rw [d_add, if_neg h1, if_neg a3]
        rw [show t_add X (i, n) = X ++ [(i, n)] by rw [hX, t_add_s, if_neg (fun q => hk q.1)]]
        split <;> exact h2
    · have h2 := t_dl_app (i := i) (n := n) h hx
      rw [d_add, if_neg (hκ.2 i hi)]
      rw [show t_add X (i, n) = X ++ [(i, n)] by rw [hX, t_add_s, if_neg (fun q => hi q.2)]]
      exact h2
theorem t_dl_addE {d : zD} {κ : tK} {X : tL} {n : Nat} (h : t_dl d κ X) (hκ : t_ok κ) (hn : n ≤ 48) (hx : X.length + 1 ≤ 17) : t_dl (d_addE d (nI n)) κ (t_cat X (t_z n)) := by
  rw [d_addE]
  by_cases h0 : n = 0
  · subst h0
    rw [if_pos (by decide)]
    exact h
  · rw [if_neg (nI_nle (by omega) (by omega))]
    have h1 := t_dl_add (i := 0) (n := n) h hκ hx
    rw [hκ.1] at h1
    simp only [t_z, if_neg h0]
    exact h1
theorem t_addF {o : zD} {κ κo : tK} (hκ : t_ok κ) : ∀ (M A B X : tL) (d : zD), t_dl o κo (A ++ (M ++ B)) → (∀ p ∈ M, κo p.1 = κ p.1) → t_dl d κ X → X.length + M.length ≤ 17 → t_dl (d_addF o M.length (nI A.length) d) κ (t_cat X M)
  | [], _, _, _, _, _, _, h, _ => h
  | (i, n) :: M, A, B, X, d, ho, hk, h, hx => by
    obtain ⟨a1, a2, a3, a4⟩ := t_dl_at (A := A) (B := M ++ B) (i := i) (n := n) ho
    have hi := hk (i, n) List.mem_cons_self
    simp only at hi
    rw [hi] at a1 a3 a4
    simp only [List.length_cons] at hx
    have h1 := t_dl_add (i := i) (n := n) h hκ (by omega)
    have h2 := t_add_n X (i, n)
    have h3 := t_addF hκ M (A ++ [(i, n)]) B (t_add X (i, n)) _ (by simpa using ho) (fun p hp => hk p (List.mem_cons_of_mem _ hp)) h1 (by omega)
    rw [List.length_cons, d_addF, a1, a2, a3, a4, t_cat_cons]
    rw [show nI (A ++ [(i, n)]).length = nI A.length + 1 by rw [← nI_succ]; simp] at h3
    exact h3
theorem t_dl_addR {o d : zD} {κ κo : tK} {A M B X : tL} {a b : Int32} (hκ : t_ok κ) (ho : t_dl o κo (A ++ (M ++ B))) (hk : ∀ p ∈ M, κo p.1 = κ p.1) (h : t_dl d κ X) (ha : a = nI A.length) (hb : b = nI (A.length + M.length)) (hx : X.length + M.length ≤ 17) : t_dl (d_addR d o a b) κ (t_cat X M) := by
  have h1 := ho.2.1
  simp only [List.length_append] at h1
  have h2 : (b.toInt - a.toInt).toNat = M.length := by
    rw [ha, hb, nI_toInt (by omega), nI_toInt (by omega)]; omega
  rw [d_addR, h2, ha]
  exact t_addF hκ M A B X d ho hk h hx
theorem t_dl_take {dd ee : zD} {κ : tK} {L : tL} (h : t_dl ee κ L) : t_dl (d_take dd ee) κ L := by
  refine ⟨h.1, h.2.1, fun j p hj => ?_⟩
  have h1 := t_dl_j h hj
  have h2 := h.2.2 j p hj
  simp only [d_take, r_take, if_pos h1, r_at_n _ h1 (show 17 < 2 ^ 31 by decide)]
  exact h2
/-! what the class reads -/
theorem t_clamp {d : zD} {κ : tK} {L : tL} (h : t_dl d κ L) : d.2.2.2.2.toNatClampNeg = L.length := by
  rw [h.1, nI_clamp (by have := h.2.1; omega)]
theorem z_find_or (p : Nat → Bool) : ∀ k j, (z_findF p k j = -1 ∧ ∀ i, j ≤ i → i < j + k → p i = false) ∨ ∃ i, j ≤ i ∧ i < j + k ∧ z_findF p k j = nI i ∧ p i = true ∧ ∀ i', j ≤ i' → i' < i → p i' = false
  | 0, j => Or.inl ⟨rfl, fun i h1 h2 => by omega⟩
  | k + 1, j => by
    rw [z_findF]
    by_cases h : p j = true
    · rw [if_pos h]
      exact Or.inr ⟨j, Nat.le_refl _, by omega, rfl, h, fun i h1 h2 => by omega⟩
    · rw [if_neg h]
      have h0 : p j = false := by simpa using h
      rcases z_find_or p k (j + 1) with ⟨h1, h2⟩ | ⟨i, h1, h2, h3, h4, h5⟩
      · refine Or.inl ⟨h1, fun i h3 h4 => ?_⟩
        by_cases h6 : i = j
        · rw [h6]; exact h0
        · exact h2 i (by omega) (by omega)
      · refine Or.inr ⟨i, by omega, by omega, h3, h4, fun i' h6 h7 => ?_⟩
        by_cases h8 : i' = j
        · rw [h8]; exact h0
        · exact h5 i' (by omega) h7
theorem z_find_0 (p : Nat → Bool) (N : Nat) : (z_find p N 0 = -1 ∧ ∀ i, i < N → p i = false) ∨ ∃ i, i < N ∧ z_find p N 0 = nI i ∧ p i = true ∧ ∀ i', i' < i → p i' = false := by
  rw [z_find]
  rcases z_find_or p (N - 0) 0 with ⟨h1, h2⟩ | ⟨i, -, h2, h3, h4, h5⟩
  · exact Or.inl ⟨h1, fun i hi => h2 i (Nat.zero_le _) (by omega)⟩
  · exact Or.inr ⟨i, by omega, h3, h4, fun i' hi => h5 i' (Nat.zero_le _) hi⟩
theorem t_beg {d : zD} {κ : tK} {A B : tL} (h : t_dl d κ (A ++ B)) : d_begin d.2.1 d.2.2.2.2 (nI A.length) = nI (t_sum A) := by
  have h1 := h.2.1
  simp only [List.length_append] at h1
  rw [d_begin, t_clamp h, nI_clamp (by omega), show min A.length (A ++ B).length = A.length by simp]
  refine t_ind (P := fun X => d_sum d.2.1 X.length = nI (t_sum X)) A rfl (fun X p Y e ih => ?_)
  obtain ⟨i, n⟩ := p
  rw [e, List.append_assoc] at h
  obtain ⟨-, a2, -, -⟩ := t_dl_at (A := X) (B := Y ++ B) (i := i) (n := n) h
  rw [List.length_append, List.length_cons, List.length_nil, d_sum, ih, a2, nI_add, t_sum_s]
/-- how many entries of a kind -/
def t_cn (κ : tK) (q : Int32) : tL → Nat
  | [] => 0
  | p :: r => (if (κ p.1).1 = q then 1 else 0) + t_cn κ q r
theorem t_cn_app (κ : tK) (q : Int32) (A B : tL) : t_cn κ q (A ++ B) = t_cn κ q A + t_cn κ q B := by
  induction A with
  | nil => simp [t_cn]
  | cons p r ih => simp only [List.cons_append, t_cn, ih]; omega
theorem t_count {d : zD} {κ : tK} {L : tL} (h : t_dl d κ L) (q : Int32) : d_count d.1 d.2.2.2.2 q = nI (t_cn κ q L) := by
  rw [d_count, t_clamp h]
  refine t_ind (P := fun X => d_cntF d.1 q X.length = nI (t_cn κ q X)) L rfl (fun X p Y e ih => ?_)
  obtain ⟨i, n⟩ := p
  rw [e] at h
  obtain ⟨a1, -, -, -⟩ := t_dl_at h
  rw [List.length_append, List.length_cons, List.length_nil, d_cntF, a1, ih, t_cn_app]
  simp only [t_cn]
  split
  · rw [← nI_succ]
  · rfl
theorem t_emp {d : zD} {κ : tK} {L : tL} (hκ : t_ok κ) (h : t_dl d κ L) : d_emp d.1 d.2.1 d.2.2.2.2 = nI (t_len 0 L) := by
  rw [d_emp, t_clamp h]
  refine t_ind (P := fun X => d_empF d.1 d.2.1 X.length = nI (t_len 0 X)) L rfl (fun X p Y e ih => ?_)
  obtain ⟨i, n⟩ := p
  rw [e] at h
  obtain ⟨a1, a2, -, -⟩ := t_dl_at h
  rw [List.length_append, List.length_cons, List.length_nil, d_empF, a1, a2, ih, t_len_app]
  simp only [t_len]
  by_cases hi : i = 0
  · subst hi
    rw [if_pos (by rw [hκ.1]), if_pos rfl, nI_add]; rfl
  · rw [if_neg (hκ.2 i hi), if_neg hi]; rfl
/-- the first empty entry that a file follows -/
theorem t_gap {d : zD} {κ : tK} {L : tL} (hκ : t_ok κ) (h : t_dl d κ L) (hn : t_na L) :
    (d_gap d.1 d.2.2.2.2 = -1 ∧ ((∀ p ∈ L, p.1 ≠ 0) ∨ ∃ A n, L = A ++ [(0, n)] ∧ ∀ p ∈ A, p.1 ≠ 0)) ∨
    ∃ A n f m B, L = A ++ (0, n) :: (f, m) :: B ∧ f ≠ 0 ∧ (∀ p ∈ A, p.1 ≠ 0) ∧ d_gap d.1 d.2.2.2.2 = nI A.length := by
  have hp : ∀ j, j + 1 < L.length → d_pG d.1 j = decide ((κ (L[j]?.getD (0, 0)).1).1 = 0 ∧ (κ (L[j + 1]?.getD (0, 0)).1).1 ≠ 0) := by
    intro j hj
    obtain ⟨p, hp⟩ : ∃ p, L[j]? = some p := ⟨L[j], List.getElem?_eq_getElem (by omega)⟩
    obtain ⟨q, hq⟩ : ∃ q, L[j + 1]? = some q := ⟨L[j + 1], List.getElem?_eq_getElem hj⟩
    rw [d_pG, r_at_n _ (t_dl_j h hp) (by decide), r_at_n _ (t_dl_j h hq) (by decide), (h.2.2 _ _ hp).1, (h.2.2 _ _ hq).1, hp, hq]
    simp only [Option.getD_some]
    by_cases h1 : (κ p.1).1 = 0 <;> by_cases h2 : (κ q.1).1 = 0 <;> simp [h1, h2]
  have hz : ∀ p : Nat × Nat, (κ p.1).1 = 0 ↔ p.1 = 0 := by
    intro p
    constructor
    · intro h1
      by_cases h2 : p.1 = 0
      · exact h2
      · exact absurd h1 (hκ.2 _ h2)
    · intro h1; rw [h1, hκ.1]
  rw [d_gap, t_clamp h]
  rcases z_find_0 (d_pG d.1) (L.length - 1) with ⟨h1, h2⟩ | ⟨j, h1, h2, h3, h4⟩
  · refine Or.inl ⟨h1, ?_⟩
    by_cases hall : ∀ p ∈ L, p.1 ≠ 0
    · exact Or.inl hall
    · right
      have hall : ∃ p, p ∈ L ∧ p.1 = 0 := by
        apply Classical.byContradiction
        intro hc
        exact hall (fun p hp e => hc ⟨p, hp, e⟩)
      obtain ⟨⟨z, n⟩, hm, hz0⟩ := hall
      simp only at hz0
      subst hz0
      obtain ⟨A, B, e⟩ := List.append_of_mem hm
      have key : ∀ A n B, L = A ++ (0, n) :: B → B = [] := by
        intro A n B e
        cases B with
        | nil => rfl
        | cons q C =>
          exfalso
          have h5 : A.length < L.length - 1 := by rw [e]; simp
          have h6 := h2 _ h5
          rw [hp _ (by omega)] at h6
          have h7 : L[A.length]? = some (0, n) := by rw [e]; simp
          have h8 : L[A.length + 1]? = some q := by rw [e]; simp
          rw [h7, h8] at h6
          simp only [Option.getD_some, decide_eq_false_iff_not, not_and] at h6
          have h9 : ¬ q.1 = 0 := fun h => t_na_at A (0, n) q C (by rw [← e]; exact hn) ⟨rfl, h⟩
          exact h6 ((hz (0, n)).mpr rfl) (fun h => h9 ((hz q).mp h))
      have hB := key A n B e
      subst hB
      refine ⟨A, n, e, fun p hp h0 => ?_⟩
      obtain ⟨i, m⟩ := p
      simp only at h0
      subst h0
      obtain ⟨C, D, e2⟩ := List.append_of_mem hp
      have h5 := key C m (D ++ [(0, n)]) (by rw [e, e2]; simp)
      simp at h5
  · right
    rw [hp _ (by omega)] at h3
    obtain ⟨p, hpj⟩ : ∃ p, L[j]? = some p := ⟨L[j], List.getElem?_eq_getElem (by omega)⟩
    obtain ⟨A, B, e, hA⟩ := t_of_at hpj
    cases B with
    | nil => exfalso; rw [e] at h1; simp at h1; omega
    | cons q C =>
      have h8 : L[j + 1]? = some q := by rw [e, ← hA]; simp
      rw [hpj, h8] at h3
      simp only [Option.getD_some, decide_eq_true_eq] at h3
      obtain ⟨i, n⟩ := p
      obtain ⟨f, m⟩ := q
      have h9 := (hz (i, n)).mp h3.1
      simp only at h9
      subst h9
      have h10 : f ≠ 0 := fun h => h3.2 ((hz (f, m)).mpr h)
      refine ⟨A, n, f, m, C, e, h10, fun p hp0 h0 => ?_, by rw [h2, hA]⟩
      obtain ⟨i2, m2⟩ := p
      simp only at h0
      subst h0
      obtain ⟨C2, D2, e2⟩ := List.append_of_mem hp0
      have h11 : C2.length < j := by rw [← hA, e2]; simp
      have h12 := h4 _ h11
      rw [hp _ (by omega)] at h12
      have h13 : L[C2.length]? = some (0, m2) := by rw [e, e2]; simp
      obtain ⟨q2, hq2⟩ : ∃ q2, L[C2.length + 1]? = some q2 := ⟨L[C2.length + 1], List.getElem?_eq_getElem (by omega)⟩
      rw [h13, hq2] at h12
      simp only [Option.getD_some, decide_eq_false_iff_not, not_and] at h12
      have h14 : ¬ q2.1 = 0 := by
        intro hq0
        cases D2 with
        | nil =>
          have h15 : L[C2.length + 1]? = some (0, n) := by rw [e, e2]; simp
          rw [h15] at hq2
          cases hq2
          exact t_na_at C2 (0, m2) (0, n) ((f, m) :: C) (by have := hn; rw [e, e2] at this; simpa using this) ⟨rfl, rfl⟩
        | cons x D3 =>
          have h15 : L[C2.length + 1]? = some x := by rw [e, e2]; simp
          rw [h15] at hq2
          cases hq2
          exact t_na_at C2 (0, m2) _ (D3 ++ (0, n) :: (f, m) :: C) (by have := hn; rw [e, e2] at this; simpa using this) ⟨rfl, hq0⟩
      exact h12 ((hz (0, m2)).mpr rfl) (fun h => h14 ((hz q2).mp h))
