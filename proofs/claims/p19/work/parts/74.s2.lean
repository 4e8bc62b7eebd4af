/-! THEORY of p19: the calls that change the directory -/
section SG
variable {w : zP} {ca : zA} {dd ee : zD} {f f' : zA} {L : tL} {nm h : Int32}
theorem s_draft {κ κo : tK} {A B M : tL} {p : Nat × Nat} {d2 : zD} {b e1 : Int32} (hκ : t_ok κ) (hd : t_dl dd κo (A ++ p :: B)) (hA : ∀ q ∈ A, κo q.1 = κ q.1) (hB : ∀ q ∈ B, κo q.1 = κ q.1)
    (hm : t_dl (d_addR (d_clear ee) dd 0 (nI A.length)) κ (t_cat [] A) → t_dl d2 κ (t_cat (t_cat [] A) M)) (hl : A.length + M.length + B.length ≤ 17) (hb : b = nI A.length + 1) (he : e1 = dd.2.2.2.2) :
    t_dl (d_addR d2 dd b e1) κ (t_cat [] (A ++ (M ++ B))) := by
  have h1 : t_dl (d_addR (d_clear ee) dd 0 (nI A.length)) κ (t_cat [] A) :=
    t_dl_addR (A := []) (M := A) (B := p :: B) hκ (by simpa using hd) hA (t_dl_clear ee κ) rfl (by simp) (by simp; omega)
  have h2 := hm h1
  have h3 := t_len0 (A ++ M)
  simp only [List.length_append] at h3
  have h4 := t_dl_addR (A := A ++ [p]) (M := B) (B := []) (a := b) (b := e1) hκ (by simpa using hd) hB h2 (by rw [hb, ← nI_succ]; simp) (by rw [he, hd.1]; simp; congr 1; omega) (by rw [t_cat_app]; omega)
  rw [t_cat_app, t_cat_app] at h4
  exact h4
/-- an entry becomes empty -/
theorem s_me {A B : tL} {q n : Nat} (hw : w.1 = true) (hL : s_L f L) (hd : t_dl dd (s_k nm h) L) (e : L = A ++ (q, n) :: B) :
    (∃ (w' : zP) (ee' : zD), v_me w dd ee (nI A.length) = (-1, w', dd, ee') ∧ w'.1 = false) ∨
    (∃ (w' : zP) (dd' ee' : zD), v_me w dd ee (nI A.length) = (nI n, w', dd', ee') ∧ w'.1 = true ∧ t_dl dd' (s_k nm h) (t_cat [] (A ++ (0, n) :: B))) := by
  obtain ⟨b1, b2, b3, b4, b5, b6, b7⟩ := s_of hL hd e
  subst e
  have hD : t_dl (v_dE dd ee (nI A.length)) (s_k nm h) (t_cat [] (A ++ ([(0, n)] ++ B))) := by
    refine s_draft (ee := ee) (p := (q, n)) (M := [(0, n)]) (s_k_ok nm h) hd (fun _ _ => rfl) (fun _ _ => rfl) (fun g => ?_) (by simp; omega) rfl rfl
    have h2 := t_len0 A
    have h1 := t_dl_add (i := 0) (n := n) g (s_k_ok nm h) (by omega)
    rw [show s_k nm h 0 = (0, 0, -1) from rfl] at h1
    rw [b1, Int32.sub_self, d_addE_0]
    exact h1
  rcases s_chg (dd := dd) (ee := v_dE dd ee (nI A.length)) hw with ⟨w', c1, c2⟩ | ⟨w', c1, c2⟩
  · refine Or.inl ⟨w', v_dE dd ee (nI A.length), ?_, c2⟩
    rw [v_me, c1]; rfl
  · refine Or.inr ⟨w', d_take dd (v_dE dd ee (nI A.length)), v_dE dd ee (nI A.length), ?_, c2, t_dl_take hD⟩
    rw [v_me, c1, b1]; rfl
theorem s_M_rem {A B : tL} {q n : Nat} (hM : s_M f (A ++ (q, n) :: B)) (hq : q ≠ 0) (hf : ∀ x, 1 ≤ x → x ≤ 6 → f' x = if x = q then 0 else f x) : s_M f' (A ++ (0, n) :: B) := by
  obtain ⟨⟨h1, h2, h3⟩, h4, h5⟩ := hM
  have hno := t_nd_at h3 hq
  refine ⟨⟨?_, fun p hp => ?_, t_fs_sub hq h3⟩, fun x hx => h4 x (t_sub_mid hq hx), fun x k1 k2 => ?_⟩
  · rw [t_sum_mid, ← t_sum_mid A B q n]; exact h1
  · rcases List.mem_append.mp hp with g | g
    · exact h2 p (List.mem_append_left _ g)
    · rcases List.mem_cons.mp g with g | g
      · have := h2 (q, n) (by simp)
        rw [g]; exact ⟨this.1, by simp⟩
      · exact h2 p (List.mem_append_right _ (List.mem_cons_of_mem _ g))
  · rw [hf x k1 k2]
    have hx0 : ¬ (0 : Nat) = x := by omega
    by_cases hx : x = q
    · subst hx
      rw [if_pos rfl, t_len_app, t_len_no hno.1]
      simp only [t_len, if_neg hx0]
      rw [t_len_no hno.2]; rfl
    · rw [if_neg hx, h5 x k1 k2, t_len_app, t_len_app]
      have hx2 : ¬ q = x := fun e => hx e.symm
      simp only [t_len, if_neg hx0, if_neg hx2]
theorem s_C_f (hC : s_C f ca L) (hf : ∀ q, 1 ≤ q → q ≤ 6 → f' (8 + q) = f (8 + q)) : s_C f' ca L := fun q a n h1 h2 h3 i hi => by rw [hf q h1 h2]; exact hC q a n h1 h2 h3 i hi
theorem s_at_rem {A B : tL} {q n x a k : Nat} (hx : x ≠ 0) (h : s_at (A ++ (0, n) :: B) x a k) : s_at (A ++ (q, n) :: B) x a k := by
  rcases s_at_app.mp h with h | ⟨b, h1, h2⟩
  · exact s_at_app.mpr (Or.inl h)
  · rcases h2 with ⟨h3, -⟩ | ⟨c, h3, h4⟩
    · simp only [Prod.mk.injEq] at h3; exact absurd h3.1.symm hx
    · exact s_at_app.mpr (Or.inr ⟨b, h1, Or.inr ⟨c, h3, h4⟩⟩)
/-- the length of what lies behind a change of one entry into M -/
theorem s_len1 {A B : tL} {n : Nat} (p : Nat × Nat) (hl : (A ++ p :: B).length ≤ 16) : (t_cat [] (A ++ (0, n) :: B)).length ≤ 16 := by
  have h1 := t_len0 (A ++ (0, n) :: B)
  simp only [List.length_append, List.length_cons] at h1 hl
  omega
theorem s_rf {κ : tK} {M : tL} (hd : t_dl ee κ M) : (M.length ≤ 16 ∧ v_rf ee = 0) ∨ (M.length = 17 ∧ v_rf ee = 3) := by
  have h1 := hd.2.1
  rw [v_rf, hd.1]
  by_cases g : M.length ≤ 16
  · exact Or.inl ⟨g, if_pos (nI_le (b := 16) g (by decide))⟩
  · exact Or.inr ⟨by omega, if_neg (nI_ge (a := 16) (by omega) (by omega))⟩
end SG
/-- the law's numbers that matter -/
def s_eq (f f' : zA) : Prop := ∀ i, i < 16 → f' i = f i
theorem s_L_eq {f f' : zA} {L : tL} (h : s_eq f f') (hL : s_L f L) : s_L f' L := ⟨hL.1, hL.2.1, fun q h1 h2 => by rw [h q (by omega)]; exact hL.2.2 q h1 h2⟩
theorem s_C_eq {f f' ca : zA} {L : tL} (h : s_eq f f') (hC : s_C f ca L) : s_C f' ca L := s_C_f hC (fun q h1 h2 => h (8 + q) (by omega))
/-- a move under way: the files but the one that is moved lie as they did -/
def s_mid (f ca : zA) (le : Int32) (L : tL) : Prop := (le = -1 ∧ s_C f ca L) ∨
  ∃ A n q m B g, L = A ++ (0, n) :: (q, m) :: B ∧ (∀ p ∈ A, p.1 ≠ 0) ∧ q ≠ 0 ∧ g < m ∧ le = nI g ∧
    (∀ i, i < g → ca (t_sum A + i) = f (8 + q) + nI i) ∧ (∀ i, g ≤ i → i < m → ca (t_sum A + n + i) = f (8 + q) + nI i) ∧
    ∀ x a k, 1 ≤ x → x ≤ 6 → x ≠ q → s_at L x a k → ∀ i, i < k → ca (a + i) = f (8 + x) + nI i
def s_On (f : zA) (x : zV) : Prop := x.1.1 = true ∧ x.2.2.2.2.1 = false ∧ x.2.2.2.2.2 = -1 ∧ ∃ L, s_L f L ∧ s_C f x.2.1 L ∧ t_dl x.2.2.1 (s_k 0 0) L ∧ ¬ 7 ∈ t_fs L
def s_Off (f : zA) (x : zV) : Prop := x.1.1 = false ∧ ((x.2.2.2.2.1 = false ∧ x.2.2.2.2.2 = -1 ∧ ∃ L nm h, s_L f L ∧ s_C f x.2.1 L ∧ t_dl x.2.2.1 (s_k nm h) L) ∨
  (x.2.2.2.2.1 = true ∧ ∃ L, s_L f L ∧ s_mid f x.2.1 x.2.2.2.2.2 L ∧ t_dl x.2.2.1 (s_k 0 0) L ∧ ¬ 7 ∈ t_fs L))
def s_Ok (f : zA) (x : zV) : Prop := s_On f x ∨ s_Off f x
theorem s_dl_n {d : zD} {nm h nm' h' : Int32} {L : tL} (hd : t_dl d (s_k nm h) L) (h7 : ¬ 7 ∈ t_fs L) : t_dl d (s_k nm' h') L :=
  t_dl_congr hd (fun p hp => s_k_n (fun e => h7 (t_fs_mem.mpr ⟨by decide, p.2, by rw [← e]; exact hp⟩)))
theorem s_len48 {L : tL} (hw : t_wf L) (q : Nat) : t_len q L ≤ 48 := by
  have h1 := t_len_le q L
  have h2 := hw.1
  omega
/-! delete -/
theorem s_delete {f : zA} {x : zV} (hx : s_On f x) {q : Nat} (h1 : 1 ≤ q) (h2 : q ≤ 6) :
    (l_de x (nI q) = (4, 0, x.1, x.2.2.1, x.2.2.2.1) ∧ f q = 0) ∨
    ∃ n, 1 ≤ n ∧ n ≤ 48 ∧ f q = nI n ∧ ((∃ (w' : zP) (ee' : zD), l_de x (nI q) = (0, -1, w', x.2.2.1, ee') ∧ w'.1 = false) ∨
      (∃ (w' : zP) (dd' ee' : zD), l_de x (nI q) = (0, nI n, w', dd', ee') ∧ w'.1 = true ∧ ∃ L, s_L (upd f q 0) L ∧ s_C (upd f q 0) x.2.1 L ∧ t_dl dd' (s_k 0 0) L ∧ ¬ 7 ∈ t_fs L)) := by
  obtain ⟨hw, hsq, hle, L, hL, hC, hd, h7⟩ := hx
  rcases s_perm hL hd h1 h2 with ⟨g1, g2⟩ | ⟨A, n, B, e, g1, g2, g3⟩
  · left
    refine ⟨?_, by rw [hL.2.2 q h1 h2, g2]; rfl⟩
    simp only [l_de, v_delete, s_pw hw, s_rp4 g1, if_true]
    rfl
  · right
    obtain ⟨b1, b2, b3, b4, b5, b6, b7⟩ := s_of hL hd e
    refine ⟨n, g3, by omega, by rw [hL.2.2 q h1 h2, g2], ?_⟩
    have e1 : l_de x (nI q) = (0, v_me x.1 x.2.2.1 x.2.2.2.1 (nI A.length)) := by
      simp only [l_de, v_delete, s_pw hw, s_rp g1 b6, if_true, g1]
    rcases s_me (ee := x.2.2.2.1) hw hL hd e with ⟨w', ee', c1, c2⟩ | ⟨w', dd', ee', c1, c2, c3⟩
    · exact Or.inl ⟨w', ee', by rw [e1, c1], c2⟩
    · refine Or.inr ⟨w', dd', ee', by rw [e1, c1], c2, t_cat [] (A ++ (0, n) :: B), ?_, ?_, c3, ?_⟩
      · subst e
        refine s_M_L (s_M_rem (s_L_M hL) (by omega) (fun y k1 k2 => ?_)) (s_len1 (q, n) hL.1.2.2.2.2)
        by_cases hy : y = q
        · rw [if_pos hy, hy, t_upd_e]
        · rw [if_neg hy, t_upd_n hy]
      · refine s_C_cat (s_C_f (f := f) (s_C_sub hC (fun y a k k1 k2 k3 => ?_)) (fun y k1 k2 => t_upd_n (by omega)))
        rw [e]; exact s_at_rem (by omega) k3
      · rw [s_fs_cat]
        intro k
        exact h7 (by rw [e]; exact t_sub_mid (by omega) k)
theorem s_Off_same {f : zA} {x : zV} (hx : s_On f x) {w' : zP} (hw' : w'.1 = false) (ee' : zD) : s_Off f (l_S x (w', x.2.2.1, ee')) := by
  obtain ⟨hw, hsq, hle, L, hL, hC, hd, h7⟩ := hx
  exact ⟨hw', Or.inl ⟨hsq, hle, L, 0, 0, hL, hC, hd⟩⟩
theorem s_nle {n : Nat} (h1 : 1 ≤ n) (h2 : n ≤ 48) : ¬ nI n ≤ 0 := fun h => by
  have := (t_le0 (show n < 2 ^ 31 by omega)).mp h
  omega
theorem s_remove {f : zA} {x : zV} (hx : s_On f x) {q : Nat} (h1 : 1 ≤ q) (h2 : q ≤ 6) : (l_remove x f (nI q) q).1 = true ∧ s_Ok (l_remove x f (nI q) q).2.1 (l_remove x f (nI q) q).2.2 := by
  rcases s_delete hx h1 h2 with ⟨e, e0⟩ | ⟨n, n1, n2, e0, ⟨w', ee', e, hw'⟩ | ⟨w', dd', ee', e, hw', L, hL, hC, hd, h7⟩⟩
  · have hf : upd f q 0 = f := by
      funext i
      by_cases hi : i = q
      · rw [hi, t_upd_e, e0]
      · rw [t_upd_n hi]
    have hr : l_remove x f (nI q) q = (true, upd f q 0, l_S x (x.1, x.2.2.1, x.2.2.2.1)) := by
      rw [l_remove, e, e0]; rfl
    rw [hr, hf]
    exact ⟨rfl, Or.inl hx⟩
  · have hr : l_remove x f (nI q) q = (true, f, l_S x (w', x.2.2.1, ee')) := by
      rw [l_remove, e, e0]
      simp only [s_e0, hw', if_true, if_neg (s_nle n1 n2)]
    rw [hr]
    exact ⟨rfl, Or.inr (s_Off_same hx hw' ee')⟩
  · have hr : l_remove x f (nI q) q = (true, upd f q 0, l_S x (w', dd', ee')) := by
      rw [l_remove, e, e0]
      simp only [s_e0, if_neg (s_nle n1 n2), if_neg (t_neg1 (show n < 2 ^ 31 by omega)), if_true]
    rw [hr]
    exact ⟨rfl, Or.inl ⟨hw', hx.2.1, hx.2.2.1, L, hL, hC, hd, h7⟩⟩
