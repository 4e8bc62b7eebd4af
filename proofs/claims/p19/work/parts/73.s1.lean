/-! THEORY of p19: where the files lie; file = name 1 .. 6, 7 = the tentative one, 0 = empty -/
def s_at : tL → Nat → Nat → Nat → Prop
  | [], _, _, _ => False
  | p :: r, q, a, n => (p = (q, n) ∧ a = 0) ∨ ∃ b, a = p.2 + b ∧ s_at r q b n
theorem s_at_app {X Y : tL} {q a n : Nat} : s_at (X ++ Y) q a n ↔ s_at X q a n ∨ ∃ b, a = t_sum X + b ∧ s_at Y q b n := by
  induction X generalizing a with
  | nil =>
    simp only [List.nil_append, s_at, t_sum, Nat.zero_add, false_or]
    constructor
    · intro h; exact ⟨a, rfl, h⟩
    · rintro ⟨b, h1, h2⟩; rw [h1]; exact h2
  | cons p r ih =>
    simp only [List.cons_append, s_at, t_sum, ih]
    constructor
    · rintro (h | ⟨b, h1, h2 | ⟨c, h3, h4⟩⟩)
      · exact Or.inl (Or.inl h)
      · exact Or.inl (Or.inr ⟨b, h1, h2⟩)
      · exact Or.inr ⟨c, by omega, h4⟩
    · rintro ((h | ⟨b, h1, h2⟩) | ⟨b, h1, h2⟩)
      · exact Or.inl h
      · exact Or.inr ⟨b, h1, Or.inl h2⟩
      · exact Or.inr ⟨t_sum r + b, by omega, Or.inr ⟨b, rfl, h2⟩⟩
theorem s_at_1 {i m q a n : Nat} : s_at [(i, m)] q a n ↔ i = q ∧ m = n ∧ a = 0 := by
  simp only [s_at, Prod.mk.injEq]
  constructor
  · rintro (⟨⟨h1, h2⟩, h3⟩ | ⟨b, -, h⟩)
    · exact ⟨h1, h2, h3⟩
    · exact h.elim
  · rintro ⟨h1, h2, h3⟩; exact Or.inl ⟨⟨h1, h2⟩, h3⟩
theorem s_at_mid (A B : tL) (q n : Nat) : s_at (A ++ (q, n) :: B) q (t_sum A) n := s_at_app.mpr (Or.inr ⟨0, rfl, Or.inl ⟨rfl, rfl⟩⟩)
theorem s_at_split {L : tL} {q a n : Nat} (h : s_at L q a n) : ∃ A B, L = A ++ (q, n) :: B ∧ t_sum A = a := by
  induction L generalizing a with
  | nil => exact h.elim
  | cons p r ih =>
    rcases h with ⟨h1, h2⟩ | ⟨b, h1, h2⟩
    · exact ⟨[], r, by rw [h1]; rfl, by rw [h2]; rfl⟩
    · obtain ⟨A, B, e, h3⟩ := ih h2
      exact ⟨p :: A, B, by rw [e]; rfl, by rw [t_sum, h3, h1]⟩
theorem s_at_ex {L : tL} {q a n i : Nat} (h : s_at L q a n) (hi : i < n) : t_ex L (a + i) = q := by
  obtain ⟨A, B, e, h1⟩ := s_at_split h
  rw [e]; exact t_ex_at (by omega) (by omega)
theorem s_at_le {L : tL} {q a n : Nat} (h : s_at L q a n) : a + n ≤ t_sum L := by
  obtain ⟨A, B, e, h1⟩ := s_at_split h
  rw [e, t_sum_mid]; omega
theorem s_at_ap {L : tL} {q a n q' a' n' i j : Nat} (h : s_at L q a n) (h' : s_at L q' a' n') (hne : q ≠ q') (hi : i < n) (hj : j < n') : a + i ≠ a' + j := by
  intro e
  have h1 := s_at_ex h hi
  rw [e, s_at_ex h' hj] at h1
  exact hne h1.symm
theorem s_at_add {X : tL} {p : Nat × Nat} {q a n : Nat} (hq : q ≠ 0) : s_at (t_add X p) q a n ↔ s_at (X ++ [p]) q a n := by
  rcases t_add_or X p with ⟨e, -⟩ | ⟨Y, m, e1, e0, e2⟩
  · rw [e]
  · obtain ⟨i, k⟩ := p
    simp only at e0 e2
    subst e0
    rw [e2, e1, s_at_app, List.append_assoc, s_at_app]
    constructor
    · rintro (h | ⟨b, -, h⟩)
      · exact Or.inl h
      · exact absurd (s_at_1.mp h).1.symm hq
    · rintro (h | ⟨b, -, h⟩)
      · exact Or.inl h
      · rcases s_at_app.mp h with h | ⟨c, -, h⟩
        · exact absurd (s_at_1.mp h).1.symm hq
        · exact absurd (s_at_1.mp h).1.symm hq
theorem s_at_cat {M : tL} {q n : Nat} (hq : q ≠ 0) : ∀ (X : tL) (a : Nat), s_at (t_cat X M) q a n ↔ s_at (X ++ M) q a n := by
  induction M with
  | nil => intro X a; simp
  | cons p r ih =>
    intro X a
    rw [t_cat_cons, ih, show X ++ p :: r = (X ++ [p]) ++ r by simp, s_at_app, s_at_add hq, t_add_sum, s_at_app (X := X ++ [p])]
    obtain ⟨i, m⟩ := p
    rw [t_sum_s]
theorem s_at_uq {L : tL} {q a n a' n' : Nat} (hq : q ≠ 0) (hn : (t_fs L).Nodup) (h : s_at L q a n) (h' : s_at L q a' n') : a = a' ∧ n = n' := by
  obtain ⟨A, B, e, h1⟩ := s_at_split h
  obtain ⟨A', B', e', h1'⟩ := s_at_split h'
  rw [e] at hn
  obtain ⟨g1, g2, -⟩ := t_uniq hq hn (e.symm.trans e')
  exact ⟨by rw [← h1, ← h1', g1], g2⟩
theorem s_len_uq {L : tL} {q a n : Nat} (hq : q ≠ 0) (hn : (t_fs L).Nodup) (h : s_at L q a n) : t_len q L = n := by
  obtain ⟨A, B, e, -⟩ := s_at_split h
  rw [e] at hn ⊢
  obtain ⟨g1, g2⟩ := t_nd_at hn hq
  exact t_len_at g1 g2
theorem s_fs_at {L : tL} {q a n : Nat} (hq : q ≠ 0) (h : s_at L q a n) : q ∈ t_fs L := by
  obtain ⟨A, B, e, -⟩ := s_at_split h
  exact t_fs_mem.mpr ⟨hq, n, by rw [e]; simp⟩
theorem s_at_fs {L : tL} {q : Nat} (h : q ∈ t_fs L) : ∃ A n B, L = A ++ (q, n) :: B := by
  obtain ⟨-, A, n, B, e⟩ := t_split h
  exact ⟨A, n, B, e⟩
/-- kind, name, handle -/
def s_k (nm h : Int32) : tK := fun i => if i = 0 then (0, 0, -1) else if i = 7 then (1, nm, h) else (2, nI i, -1)
theorem s_k_ok (nm h : Int32) : t_ok (s_k nm h) := by
  refine ⟨by simp [s_k], fun i hi => ?_⟩
  simp only [s_k, if_neg hi]
  split
  · show (1 : Int32) ≠ 0; decide
  · show (2 : Int32) ≠ 0; decide
theorem s_k_7 (nm h : Int32) : s_k nm h 7 = (1, nm, h) := rfl
theorem s_k_q {nm h : Int32} {q : Nat} (h0 : q ≠ 0) (h7 : q ≠ 7) : s_k nm h q = (2, nI q, -1) := by simp only [s_k, if_neg h0, if_neg h7]
theorem s_k_n {nm h nm' h' : Int32} {q : Nat} (h7 : q ≠ 7) : s_k nm h q = s_k nm' h' q := by simp only [s_k, if_neg h7]
def s_L (f : zA) (L : tL) : Prop := t_wf L ∧ (∀ q ∈ t_fs L, q ≤ 7) ∧ ∀ q, 1 ≤ q → q ≤ 6 → f q = nI (t_len q L)
def s_C (f ca : zA) (L : tL) : Prop := ∀ q a n, 1 ≤ q → q ≤ 6 → s_at L q a n → ∀ i, i < n → ca (a + i) = f (8 + q) + nI i
/-- a row of entries that is to become a directory -/
def s_M (f : zA) (M : tL) : Prop := t_raw M ∧ (∀ q ∈ t_fs M, q ≤ 7) ∧ ∀ q, 1 ≤ q → q ≤ 6 → f q = nI (t_len q M)
theorem s_L_M {f : zA} {L : tL} (h : s_L f L) : s_M f L := ⟨⟨h.1.1, h.1.2.1, h.1.2.2.2.1⟩, h.2⟩
theorem s_fs_cat (M : tL) : t_fs (t_cat [] M) = t_fs M := by rw [t_cat_fs]; rfl
theorem s_M_L {f : zA} {M : tL} (h : s_M f M) (hl : (t_cat [] M).length ≤ 16) : s_L f (t_cat [] M) := by
  have h1 := t_raw_nf h.1
  refine ⟨⟨h1.1, h1.2.1, h1.2.2.1, h1.2.2.2, hl⟩, fun q hq => h.2.1 q (by rw [← s_fs_cat]; exact hq), fun q h2 h3 => ?_⟩
  rw [t_cat_len, h.2.2 q h2 h3, t_len, Nat.zero_add]
theorem s_C_cat {f ca : zA} {M : tL} (h : s_C f ca M) : s_C f ca (t_cat [] M) := by
  intro q a n h1 h2 h3
  exact h q a n h1 h2 ((s_at_cat (by omega) [] a).mp h3)
/-- contents where what lies here lay there -/
theorem s_C_sub {f ca : zA} {L M : tL} (h : s_C f ca L) (hs : ∀ q a n, 1 ≤ q → q ≤ 6 → s_at M q a n → s_at L q a n) : s_C f ca M := fun q a n h1 h2 h3 => h q a n h1 h2 (hs q a n h1 h2 h3)
section SF
variable {f : zA} {dd : zD} {L : tL} {nm h : Int32}
theorem s_le7 (hL : s_L f L) {i n : Nat} (hm : (i, n) ∈ L) : i ≤ 7 := by
  by_cases h0 : i = 0
  · omega
  · exact hL.2.1 i (t_fs_mem.mpr ⟨h0, n, hm⟩)
theorem s_perm (hL : s_L f L) (hd : t_dl dd (s_k nm h) L) {q : Nat} (h1 : 1 ≤ q) (h2 : q ≤ 6) :
    (v_P dd (nI q) = -1 ∧ t_len q L = 0) ∨ ∃ A n B, L = A ++ (q, n) :: B ∧ v_P dd (nI q) = nI A.length ∧ t_len q L = n ∧ 1 ≤ n := by
  have hp : ∀ j x, L[j]? = some x → d_pP dd.1 dd.2.2.1 (nI q) j = (fun i => decide (i = q)) x.1 := by
    intro j x hx
    obtain ⟨i, n⟩ := x
    have g1 := hd.2.2 j _ hx
    have g2 := s_le7 hL (List.mem_of_getElem? hx)
    rw [d_pP, r_at_n _ (t_dl_j hd hx) (by decide), r_at_n _ (t_dl_j hd hx) (by decide), g1.1, g1.2.2.1]
    simp only
    by_cases hi : i = 0
    · subst hi
      rw [show s_k nm h 0 = (0, 0, -1) from rfl]
      have : ¬ 0 = q := by omega
      simp [this]
    · by_cases h7 : i = 7
      · subst h7
        rw [s_k_7]
        have : ¬ 7 = q := by omega
        simp [this]
      · rw [s_k_q hi h7]
        have := nI_eq (show i < 2 ^ 31 by omega) (show q < 2 ^ 31 by omega)
        simp [this]
  simp only [v_P, d_perm, t_clamp hd]
  by_cases hm : q ∈ t_fs L
  · right
    obtain ⟨A, n, B, e⟩ := s_at_fs hm
    have hw := hL.1
    rw [e] at hw
    have hno := t_wf_no hw (by omega)
    refine ⟨A, n, B, e, ?_, by rw [e]; exact t_len_at hno.1 hno.2, (t_wf_b hw).1⟩
    exact t_find _ (fun i => decide (i = q)) hp hL.1.2.2.2.1 (by omega) (by simp) (fun i m _ hb => by simpa using hb) e
  · left
    have hno : ∀ p ∈ L, p.1 ≠ q := fun p hp e => hm (t_fs_mem.mpr ⟨by omega, p.2, by rw [← e]; exact hp⟩)
    exact ⟨t_find_no _ (fun i => decide (i = q)) hp (fun i m hi => by simpa using hno _ hi), t_len_no hno⟩
theorem s_tent0 (hL : s_L f L) (hd : t_dl dd (s_k nm h) L) (h7 : ¬ 7 ∈ t_fs L) (x : Int32) : v_T dd x = -1 := by
  simp only [v_T, d_tent, t_clamp hd]
  refine t_find_no _ (fun _ => false) (fun j p hp => ?_) (fun _ _ _ => rfl)
  obtain ⟨i, n⟩ := p
  have g1 := hd.2.2 j _ hp
  rw [d_pT, r_at_n _ (t_dl_j hd hp) (by decide), g1.1]
  simp only
  by_cases hi : i = 0
  · subst hi; rw [show s_k nm h 0 = (0, 0, -1) from rfl]; simp
  · rw [s_k_q hi (fun e => h7 (t_fs_mem.mpr ⟨by decide, n, by rw [← e]; exact List.mem_of_getElem? hp⟩))]; simp
theorem s_tent (hL : s_L f L) (hd : t_dl dd (s_k nm h) L) {A B : tL} {n : Nat} (e : L = A ++ (7, n) :: B) : v_T dd h = nI A.length := by
  simp only [v_T, d_tent, t_clamp hd]
  refine t_find _ (fun i => decide (i = 7)) (fun j p hp => ?_) hL.1.2.2.2.1 (by decide) (by simp) (fun i m _ hb => by simpa using hb) e
  obtain ⟨i, m⟩ := p
  have g1 := hd.2.2 j _ hp
  rw [d_pT, r_at_n _ (t_dl_j hd hp) (by decide), r_at_n _ (t_dl_j hd hp) (by decide), g1.1, g1.2.2.2]
  simp only
  by_cases hi : i = 0
  · subst hi; rw [show s_k nm h 0 = (0, 0, -1) from rfl]; simp
  · by_cases h7 : i = 7
    · subst h7; rw [s_k_7]; simp
    · rw [s_k_q hi h7]; simp [h7]
/-- of a file at a place -/
theorem s_of (hL : s_L f L) (hd : t_dl dd (s_k nm h) L) {A B : tL} {q n : Nat} (e : L = A ++ (q, n) :: B) :
    r_at 17 dd.2.1 (nI A.length) = nI n ∧ d_begin dd.2.1 dd.2.2.2.2 (nI A.length) = nI (t_sum A) ∧ r_at 17 dd.2.2.1 (nI A.length) = (s_k nm h q).2.1 ∧ t_sum A + n ≤ 48 ∧ 1 ≤ n ∧ ¬ nI A.length = -1 ∧ A.length + B.length ≤ 15 := by
  have hw := hL.1
  subst e
  have hb := t_wf_b hw
  obtain ⟨a1, a2, a3, a4⟩ := t_dl_at hd
  exact ⟨a2, t_beg (B := (q, n) :: B) hd, a3, by omega, hb.1, t_neg1 (by omega), by omega⟩
end SF
theorem s_rt {dd : zD} {x : Int32} {A : Nat} (e : v_T dd x = nI A) (hA : ¬ nI A = -1) : v_rt dd x = 0 := by
  simp only [v_T] at e
  rw [v_rt, e, if_neg hA]
theorem s_rp {dd : zD} {x : Int32} {A : Nat} (e : v_P dd x = nI A) (hA : ¬ nI A = -1) : v_rp dd x = 0 := by
  simp only [v_P] at e
  rw [v_rp, e, if_neg hA]
theorem s_rp4 {dd : zD} {x : Int32} (e : v_P dd x = -1) : v_rp dd x = 4 := by
  simp only [v_P] at e
  rw [v_rp, e, if_pos rfl]
/-! power -/
theorem s_w {w : zP} (hw : w.1 = true) : (pw_write w).2.1 = (pw_write w).1 := by
  obtain ⟨up, left, cnt⟩ := w
  simp only at hw
  subst hw
  by_cases h : left = 0
  · simp [pw_write, h]
  · simp [pw_write, h]
theorem s_ws : ∀ (n : Nat) (w : zP), w.1 = true → (v_writes n w).2.1 = (v_writes n w).1
  | 0, w, hw => hw
  | n + 1, w, hw => by
    rw [v_writes]
    by_cases h : (pw_write w).1 = false
    · rw [if_pos h, s_w hw, h]
    · rw [if_neg h]
      exact s_ws n _ (by rw [s_w hw]; simpa using h)
theorem s_chg {w : zP} {dd ee : zD} (hw : w.1 = true) : (∃ w' : zP, v_change w dd ee = (false, w', dd) ∧ w'.1 = false) ∨ (∃ w' : zP, v_change w dd ee = (true, w', d_take dd ee) ∧ w'.1 = true) := by
  have h1 := s_ws (v_n ee).toNatClampNeg w hw
  rw [v_change]
  by_cases h : (v_writes (v_n ee).toNatClampNeg w).1 = false
  · rw [if_pos h]; exact Or.inl ⟨_, rfl, by rw [h1, h]⟩
  · rw [if_neg h]
    have h2 : (v_writes (v_n ee).toNatClampNeg w).1 = true := by simpa using h
    exact Or.inr ⟨_, rfl, by rw [h1, h2]⟩
theorem s_pw {w : zP} (hw : w.1 = true) : v_pw w = 0 := by rw [v_pw, if_neg (by rw [hw]; decide)]
theorem s_e0 (l : List (Nat × Int32)) (r : Int32) : e_map l 0 r = r := rfl
