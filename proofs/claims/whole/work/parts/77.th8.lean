/-! THEORY: enter and close -/
section TE
variable {w : zP} {ca : zA} {dd ee : zD} {sq : Bool} {le : Int32} {qq : zQ} {mo : Bool} {gr : Int32} {ints ow nx ki na ha : zA} {mv fr sh : Int32} {L : tL}
theorem t_half : ∀ a : Fin 49, nI a.val / 2 = nI (a.val / 2) := by decide +kernel
theorem t_want (hI : t_I dd ow ki na ha L) {b : Int32} (h0 : ¬ b < 0) (h1 : b ≤ 48) : ∃ v, v ≤ 48 ∧ v_len dd b = nI v ∧ m_want ow b = nI v := by
  obtain ⟨j, hj, rfl⟩ := nI_of2 (n := 48) rfl h0 h1
  by_cases hj0 : j = 0
  · subst hj0
    obtain ⟨x, y, hx, hy, h3, h4, h5⟩ := t_long (t_k_ok ki na ha) (t_wf_nf hI.1) hI.2.1 hI.2.2.1
    have h6 := t_half ⟨x, by omega⟩
    simp only at h6
    refine ⟨max (x / 2) y, by omega, ?_, ?_⟩
    · rw [v_len, if_pos nI_0, d_spare, t_clamp hI.2.2.1, h4]
      simp only
      rw [h6, t_max _ _ (by omega) (by omega)]
    · have l0 : m_lon ow 0 = nI x := by rw [m_lon, if_pos rfl, h3]
      have l1 : m_lon ow 1 = nI y := by rw [m_lon, if_neg (show ¬ (1 : Int32) = 0 by decide), h3]
      rw [m_want, if_pos (show nI 0 ≤ 0 by decide), l0, l1, h6]
      by_cases h7 : x / 2 ≤ y
      · rw [if_pos (nI_le h7 (by omega))]; congr 1; omega
      · rw [if_neg (nI_ge (a := y) (b := x / 2) (by omega) (by omega))]; congr 1; omega
  · refine ⟨j, hj, ?_, ?_⟩
    · rw [v_len, if_neg (nI_ne0 (by omega) (by omega))]
    · rw [m_want, if_neg (nI_nle (by omega) (by omega))]
theorem t_fitR (hI : t_I dd ow ki na ha L) (b ra : Int32) :
    (d_room dd.1 dd.2.1 dd.2.2.2.2 b = -1 ∧ m_fitR ow b ra = (false, ra, 99)) ∨
    ∃ A n B, L = A ++ (0, n) :: B ∧ d_room dd.1 dd.2.1 dd.2.2.2.2 b = nI A.length ∧ m_fitR ow b ra = (true, nI (t_sum A), nI n) ∧ ¬ nI n < b := by
  rcases t_room (t_k_ok ki na ha) (t_wf_nf hI.1) hI.2.1 hI.2.2.1 b ra with ⟨h1, h2⟩ | ⟨A, n, B, e, h1, h2, h3⟩
  · refine Or.inl ⟨h1, ?_⟩
    rw [m_fitR, h2, if_pos (show (99 : Int32) ≤ 99 by decide)]
  · have h4 := hI.1
    rw [e] at h4
    have h5 := t_wf_b h4
    refine Or.inr ⟨A, n, B, e, h1, ?_, h3⟩
    rw [m_fitR, h2]
    simp only
    rw [if_neg (show ¬ (99 : Int32) ≤ nI n from nI_ge (b := 99) (by omega) (by decide))]
theorem t_enter_pre (hR : t_R w ca dd sq le qq mo gr ints ow ki na ha mv fr sh) (p1 ra : Int32) : m_hand ki ha (nI 4) = 0 ∧ (¬ p1 < 0 → p1 ≤ 48 → ∀ y, y = m_want ow p1 → y = nI y.toNatClampNeg) ∧ (∀ y, y = m_want ow p1 → (m_fitR ow y ra).1 = true → m_ff ki < 17) := by
  obtain ⟨rfl, hi, L, hI, hm⟩ := hR
  refine ⟨?_, fun h0 h1 y hy => ?_, fun y hy h => ?_⟩
  · rcases m_handF_or ki ha (nI 4) 16 with ⟨h1, -⟩ | ⟨h1, h2, h3, h4⟩
    · exact h1
    · obtain ⟨a, ha4, e⟩ := hI.2.2.2.2.1 _ h1 h2 h3
      rw [h4] at e
      have := (nI_eq (by decide) (by omega)).mp e
      omega
  · obtain ⟨v, hv, -, e⟩ := t_want hI h0 h1
    rw [hy, e, nI_clamp (by omega)]
  · rcases t_fitR hI y ra with ⟨-, h2⟩ | ⟨A, n, B, e, -⟩
    · rw [h2] at h; cases h
    · have := t_fre hI e; omega
theorem t_rf_or {κ : tK} (hd : t_dl ee κ L) {nx : zA} (hn : t_nf L) (ho : t_ow nx L) : (L.length ≤ 16 ∧ v_rf ee = 0 ∧ m_runF nx 48 ≤ 16) ∨ (v_rf ee = 3 ∧ ¬ m_runF nx 48 ≤ 16) := by
  rw [v_rf, hd.1, t_runs hn ho]
  have h1 := hd.2.1
  by_cases h : L.length ≤ 16
  · have h2 : nI L.length ≤ 16 := nI_le (b := 16) h (by decide)
    exact Or.inl ⟨h, if_pos h2, h2⟩
  · have h2 : ¬ nI L.length ≤ 16 := nI_ge (a := 16) (by omega) (by omega)
    exact Or.inr ⟨if_neg h2, h2⟩
theorem t_fl_enter (hI : t_I dd ow ki na ha L) {M : tL} {f h : Nat} {nm : Int32} (hf1 : 1 ≤ f) (hf2 : f ≤ 16) (hM : ∀ x, x ∈ t_fs M ↔ x = f ∨ x ∈ t_fs L) (hh : h < 4) (hh0 : m_hand ki ha (nI h) = 0) (hk : ki f = 0) : t_fl (upd ki f 1) (upd na f nm) (upd ha f (nI h)) M := by
  have hF := hI.2.2.2
  have hno : ∀ y, 1 ≤ y → y ≤ 16 → ki y = 1 → ¬ ha y = nI h := by
    intro y h1 h2 h3 h4
    rcases m_handF_or ki ha (nI h) 16 with ⟨-, h5⟩ | ⟨h5, -⟩
    · exact h5 y h1 h2 ⟨h3, h4⟩
    · rw [show m_handF ki ha (nI h) 16 = 0 from hh0] at h5; omega
  refine ⟨fun x hx hx2 => ?_, fun x hx hx2 h3 => ?_, fun x y hx hx2 hy hy2 h3 h4 h5 => ?_, fun x y hx hx2 hy hy2 h3 h4 h5 => ?_⟩
  · rw [hM]
    by_cases e : x = f
    · subst e; rw [t_upd_e]; exact ⟨⟨fun _ => by decide, fun _ => Or.inl rfl⟩, Or.inr (Or.inl rfl)⟩
    · rw [t_upd_n e]
      have h1 := hF.1 x hx hx2
      exact ⟨⟨fun h => h1.1.mp (h.resolve_left e), fun h => Or.inr (h1.1.mpr h)⟩, h1.2⟩
  · by_cases e : x = f
    · subst e; rw [t_upd_e]; exact ⟨h, hh, rfl⟩
    · rw [t_upd_n e] at h3 ⊢; exact hF.2.1 x hx hx2 h3
  · by_cases e : x = f
    · by_cases e2 : y = f
      · rw [e, e2]
      · subst e; rw [t_upd_e, t_upd_n e2] at h5; rw [t_upd_n e2] at h4; exact absurd h5.symm (hno y hy hy2 h4)
    · by_cases e2 : y = f
      · subst e2; rw [t_upd_e, t_upd_n e] at h5; rw [t_upd_n e] at h3; exact absurd h5 (hno x hx hx2 h3)
      · rw [t_upd_n e] at h3 h5; rw [t_upd_n e2] at h4 h5; exact hF.2.2.1 x y hx hx2 hy hy2 h3 h4 h5
  · by_cases e : x = f
    · subst e; rw [t_upd_e] at h3; exact absurd h3 (by decide)
    · by_cases e2 : y = f
      · subst e2; rw [t_upd_e] at h4; exact absurd h4 (by decide)
      · rw [t_upd_n e] at h3 h5; rw [t_upd_n e2] at h4 h5; exact hF.2.2.2 x y hx hx2 hy hy2 h3 h4 h5
theorem t_enter (hR : t_R w ca dd sq le qq mo gr ints ow ki na ha mv fr sh) (p0 p1 ra rl : Int32) : k_map [1, 2, 3] (v_enter w dd ee p0 p1).1 = (m_enter qq false ow nx ki na ha ra rl p0 p1).2.1 ∧ ((v_enter w dd ee p0 p1).1 = 0 → (v_enter w dd ee p0 p1).2.1 = (m_enter qq false ow nx ki na ha ra rl p0 p1).1) ∧
    t_R (v_enter w dd ee p0 p1).2.2.1 ca (v_enter w dd ee p0 p1).2.2.2.1 sq le (m_enter qq false ow nx ki na ha ra rl p0 p1).2.2.1 mo gr ints (m_enter qq false ow nx ki na ha ra rl p0 p1).2.2.2.1 (m_enter qq false ow nx ki na ha ra rl p0 p1).2.2.2.2.2.1 (m_enter qq false ow nx ki na ha ra rl p0 p1).2.2.2.2.2.2.1 (m_enter qq false ow nx ki na ha ra rl p0 p1).2.2.2.2.2.2.2.1 mv fr sh := by
  obtain ⟨rfl, hi, L, hI, hm⟩ := hR
  obtain ⟨up, left, cnt⟩ := w
  cases up with
  | false => exact ⟨rfl, fun h => (by cases h), rfl, hi, L, hI, hm⟩
  | true =>
    simp only [v_enter, v_pw, m_enter, Bool.true_eq_false, if_false, if_true]
    rcases t_nm p0 with ⟨n1, n2⟩ | ⟨n1, n2⟩
    case inr =>
      simp only [n1, n2, if_true]
      exact ⟨rfl, fun h => (by cases h), rfl, hi, L, hI, hm⟩
    simp only [n1, n2, Bool.true_eq_false, if_false, if_true]
    by_cases hb0 : p1 < 0
    · simp only [if_pos hb0]; exact ⟨rfl, fun h => (by cases h), rfl, hi, L, hI, hm⟩
    by_cases hb48 : p1 ≤ 48
    case neg => simp only [if_neg hb0, if_neg hb48]; exact ⟨rfl, fun h => (by cases h), rfl, hi, L, hI, hm⟩
    simp only [if_neg hb0, if_pos hb48]
    by_cases hful : d_free dd.1 dd.2.2.2.1 dd.2.2.2.2 = -1
    · simp only [if_pos hful, if_pos ((t_full hI).mp hful)]
      exact ⟨rfl, fun h => (by cases h), rfl, hi, L, hI, hm⟩
    simp only [if_neg hful, if_neg (fun h => hful ((t_full hI).mpr h))]
    obtain ⟨fh1, fh2, fh3⟩ := (t_free hI).resolve_left (fun h => hful h.1)
    obtain ⟨v, hv, e1, e2⟩ := t_want hI hb0 hb48
    simp only [e1, e2, v_ent2, m_ent2]
    by_cases hv0 : v = 0
    · subst hv0
      simp only [if_pos nI_0]
      exact ⟨rfl, fun h => (by cases h), rfl, hi, L, hI, hm⟩
    have hv0' : ¬ nI v = 0 := nI_ne0 (by omega) (by omega)
    simp only [if_neg hv0']
    rcases t_fitR hI (nI v) ra with ⟨h1, h2⟩ | ⟨A, n, B, e, h1, h2, h3⟩
    · simp only [h1, h2, if_true]
      exact ⟨rfl, fun h => (by cases h), rfl, hi, L, hI, hm⟩
    have hff := t_fre hI e
    have hI' := hI
    rw [e] at hI'
    have hb := t_wf_b hI'.1
    have hvn : v ≤ n := by
      rcases Nat.lt_or_ge n v with h | h
      · exact absurd (nI_lt h (by omega)) h3
      · exact h
    obtain ⟨f, hf⟩ : ∃ f, f = m_ff ki := ⟨_, rfl⟩
    obtain ⟨hh, hhd⟩ : ∃ hh, hh = m_fh ki ha := ⟨_, rfl⟩
    have hnl := t_neg1 (k := A.length) (by omega)
    rw [← hhd] at fh1 fh2 fh3
    rw [← hf] at hff
    simp only [h1, h2, if_neg hnl, Bool.true_eq_false, if_false, ← hf, ← hhd, fh1, nI_clamp (show t_sum A < 2 ^ 31 by omega), nI_clamp (show v < 2 ^ 31 by omega)]
    have hf0 : f ≠ 0 := by omega
    have hnf : ∀ q : Nat × Nat, q ∈ L → q.1 ≠ f := by
      intro q hq e3
      have h4 := t_I_id hI (i := q.1) (n := q.2) hq (by rw [e3]; exact hf0)
      exact h4.2.2.1 (by rw [e3]; exact hff.2.2)
    have hk : ∀ q : Nat × Nat, q ∈ L → t_k ki na ha q.1 = t_k (upd ki f 1) (upd na f p0) (upd ha f (nI hh)) q.1 := fun q hq => t_upd_k (hnf q hq) (fun j hj => t_upd_n hj) (fun j hj => t_upd_n hj) (fun j hj => t_upd_n hj)
    obtain ⟨a1, a2, -, -⟩ := t_dl_at hI'.2.2.1
    have hd : t_dl (v_dO dd ee (nI A.length) 1 (nI v) p0 (nI hh)) (t_k (upd ki f 1) (upd na f p0) (upd ha f (nI hh))) (t_cat [] (A ++ (((f, v) :: t_z (n - v)) ++ B))) := by
      have hz := t_z_n (n - v)
      refine t_draft (ee := ee) (p := (0, n)) (M := (f, v) :: t_z (n - v)) (t_k_ok _ _ _) hI'.2.2.1 (fun q hq => hk q (by rw [e]; simp [hq])) (fun q hq => hk q (by rw [e]; simp [hq])) (fun h => ?_) (by simp only [List.length_cons]; omega) rfl rfl
      have h8 := t_len0 A
      have h7 := t_dl_add (i := f) (n := v) h (t_k_ok _ _ _) (by omega)
      rw [t_k_1 hf0 (t_upd_e ..), t_upd_e, t_upd_e] at h7
      have h9 := t_add_n (t_cat [] A) (f, v)
      have h10 := t_dl_addE (n := n - v) h7 (t_k_ok _ _ _) (by omega) (by omega)
      rw [a2, z_mi (i := n) (j := v) rfl rfl hvn]
      exact h10
    have hr : t_raw (A ++ (((f, v) :: t_z (n - v)) ++ B)) := by
      refine ⟨?_, fun p hp => ?_, ?_⟩
      · rw [t_sum_app, t_sum_app, t_sum, t_sum_z]; simp only; omega
      · rcases List.mem_append.mp hp with h | h
        · exact hI'.1.2.1 p (List.mem_append_left _ h)
        · rcases List.mem_append.mp h with h | h
          · rcases List.mem_cons.mp h with h | h
            · rw [h]; simp only; omega
            · exact t_z_ok p h
          · exact hI'.1.2.1 p (List.mem_append_right _ (List.mem_cons_of_mem _ h))
      · have h4 := hI'.1.2.2.2.1
        have h5 : ¬ f ∈ t_fs (A ++ (0, n) :: B) := by
          rw [← e]
          intro h
          exact (hI.2.2.2.1 f hff.1 hff.2.1).1.mp h hff.2.2
        rw [t_fs_mid0] at h4 h5
        rw [t_fs_app, t_fs_app]
        simp only [t_fs, if_neg hf0, t_fs_z, List.cons_append, List.nil_append]
        rw [List.perm_middle.nodup_iff, List.nodup_cons]
        exact ⟨h5, h4⟩
    have hx : ∀ t, t < 48 → m_fillF (m_cp nx ow) (t_sum A) (nI f) v t = nI (t_ex (A ++ (((f, v) :: t_z (n - v)) ++ B)) t) := by
      intro t ht
      rw [m_fillF, t_cp_at ht, List.cons_append, t_ex_2, t_ex_z, hI'.2.1 t ht, t_ex_2]
      by_cases k1 : t < t_sum A
      · rw [if_neg (by omega), if_pos k1, if_pos k1]
      · by_cases k2 : t < t_sum A + v
        · rw [if_pos ⟨by omega, k2⟩, if_neg k1, if_pos k2]
        · rw [if_neg (by omega), if_neg k1, if_neg k1, if_neg k2]
          by_cases k3 : t < t_sum A + n
          · rw [if_pos k3, if_pos (by omega)]
          · rw [if_neg k3, if_neg (by omega)]; congr 2; omega
    simp only [v_ent3, m_ent3]
    rcases t_rf_or hd (t_raw_nf hr) (t_raw_ow hx) with ⟨r1, r2, r3⟩ | ⟨r2, r3⟩
    · obtain ⟨c1, c2, c3⟩ := t_chg (w := (true, left, cnt)) (dd := dd) (wi := false) (sq := sq) (ow := ow) rfl (fun h => by cases h) hd (t_raw_nf hr) (t_raw_ow hx)
      simp only [r2, if_pos r3, if_true, ← hhd]
      rw [c1]
      simp only
      by_cases hc : (v_change (true, left, cnt) dd (v_dO dd ee (nI A.length) 1 (nI v) p0 (nI hh))).1 = false
      · simp only [if_pos hc]
        rw [if_pos hc] at c2
        rw [c2]
        exact ⟨rfl, fun _ => (by first | rfl | trivial), rfl, hi, _, hI, Or.inl (t_mid_on hm rfl)⟩
      · simp only [if_neg hc]
        rw [if_neg hc] at c2
        rw [c2]
        refine ⟨rfl, fun _ => (by first | rfl | trivial), rfl, hi, _, t_new hr hx hd r1 (t_fl_enter hI hff.1 hff.2.1 (fun x => ?_) fh2 fh3 hff.2.2), Or.inl (t_mid_on hm rfl)⟩
        rw [e, t_fs_mid0, t_fs_app, t_fs_app]
        simp only [t_fs, if_neg hf0, t_fs_z, List.cons_append, List.nil_append, List.mem_append, List.mem_cons]
        constructor
        · rintro (h | h | h)
          · exact Or.inr (Or.inl h)
          · exact Or.inl h
          · exact Or.inr (Or.inr h)
        · rintro (h | h | h)
          · exact Or.inr (Or.inl h)
          · exact Or.inl h
          · exact Or.inr (Or.inr h)
    · simp only [r2, if_neg r3, show ¬ (3 : Nat) = 0 by decide, if_false]
      exact ⟨rfl, fun h => (by cases h), rfl, hi, L, hI, hm⟩
/-- close's loop -/
def t_gc (f u g : Nat) (p : Nat × Nat) : tL := if p.1 = f then (f, u) :: t_z (p.2 - u) else if p.1 = g then [(0, p.2)] else [p]
theorem t_dCF {κ κo : tK} {f u g : Nat} {k nm old : Int32} (hκ : t_ok κ) (hw : t_wf L) (ho : t_dl dd κo L) (hf : f ≠ 0) (hkf : κ f = (2, nm, -1)) (hk : ∀ p ∈ L, p.1 ≠ f → κo p.1 = κ p.1) (hu : ∀ p ∈ L, p.1 = f → u ≤ p.2)
    (Hk : ∀ C p D, L = C ++ p :: D → (nI C.length = k ↔ p.1 = f)) (Ho : ∀ C p D, L = C ++ p :: D → (nI C.length = old ↔ p.1 = g ∧ g ≠ 0)) :
    ∀ (M A X : tL) (d : zD), L = A ++ M → t_dl d κ X → X.length + (M.flatMap (t_gc f u g)).length ≤ 17 → t_dl (v_dCF dd k (nI u) nm old M.length (nI A.length) d) κ (t_cat X (M.flatMap (t_gc f u g)))
  | [], _, _, _, _, h, _ => h
  | (i, n) :: M, A, X, d, e, h, hx => by
    have ho2 := ho
    have hw2 := hw
    rw [e] at ho2 hw2
    obtain ⟨a1, a2, a3, a4⟩ := t_dl_at ho2
    have hb := t_wf_b hw2
    have h1 := Hk A (i, n) M e
    have h2 := Ho A (i, n) M e
    have hmem : (i, n) ∈ L := by rw [e]; simp
    simp only at h1 h2
    rw [List.flatMap_cons, List.length_append] at hx
    rw [List.length_cons, v_dCF, List.flatMap_cons, ← t_cat_app, a2]
    have hs : nI A.length + 1 = nI (A ++ [(i, n)]).length := by rw [← nI_succ]; simp
    have hcl := t_cat_n X (t_gc f u g (i, n))
    have fin : ∀ d', t_dl d' κ (t_cat X (t_gc f u g (i, n))) → t_dl (v_dCF dd k (nI u) nm old M.length (nI A.length + 1) d') κ (t_cat (t_cat X (t_gc f u g (i, n))) (M.flatMap (t_gc f u g))) := by
      intro d' h'
      rw [hs]
      exact t_dCF hκ hw ho hf hkf hk hu Hk Ho M (A ++ [(i, n)]) _ d' (by rw [e]; simp) h' (by omega)
    by_cases hif : i = f
    · rw [if_pos (h1.mpr hif)]
      refine fin _ ?_
      subst hif
      have hun := hu _ hmem rfl
      simp only at hun
      simp only [t_gc, if_true] at hx hcl ⊢
      have hz := t_z_n (n - u)
      simp only [List.length_cons] at hx
      have h5 := t_dl_add (i := i) (n := u) h hκ (by omega)
      rw [hkf] at h5
      have h6 := t_add_n X (i, u)
      rw [z_mi (i := n) (j := u) rfl rfl hun]
      by_cases hz0 : n - u = 0
      · rw [hz0]
        have h8 : t_cat X ((i, u) :: t_z 0) = t_add X (i, u) := rfl
        rw [h8, d_addE, if_pos (by decide)]
        exact h5
      · have h9 : (t_z (n - u)).length = 1 := by simp [t_z, hz0]
        have h7 := t_dl_addE (n := n - u) h5 hκ (by omega) (by omega)
        exact h7
    · rw [if_neg (fun h => hif (h1.mp h))]
      by_cases hig : i = g ∧ g ≠ 0
      · rw [if_pos (h2.mpr hig)]
        refine fin _ ?_
        have h4 : t_gc f u g (i, n) = t_z n := by
          simp only [t_gc, if_neg hif, if_pos hig.1, t_z, show n ≠ 0 by omega, if_false]
        rw [h4] at hx ⊢
        have h9 : (t_z n).length = 1 := by simp [t_z, show n ≠ 0 by omega]
        exact t_dl_addE (n := n) h hκ (by omega) (by omega)
      · rw [if_neg (fun h => hig (h2.mp h))]
        refine fin _ ?_
        have h4 : t_gc f u g (i, n) = [(i, n)] := by
          by_cases h5 : i = g
          · have h6 : g = 0 := Classical.byContradiction (fun h => hig ⟨h5, h⟩)
            simp only [t_gc, if_neg hif, if_pos h5]
            rw [h5, h6]
          · simp only [t_gc, if_neg hif, if_neg h5]
        rw [h4] at hx ⊢
        simp only [List.length_cons, List.length_nil] at hx
        exact t_dl_addR (A := A) (M := [(i, n)]) (B := M) hκ (by simpa using ho2) (fun p hp => hk p (by rw [e]; simp only [List.mem_singleton] at hp; rw [hp]; simp) (by simp only [List.mem_singleton] at hp; rw [hp]; exact hif)) h rfl (by rw [← nI_succ]; rfl) (by simp only [List.length_cons, List.length_nil]; omega)
theorem t_gc_no {f u g : Nat} {M : tL} (h : ∀ p ∈ M, p.1 ≠ f) : M.flatMap (t_gc f u g) = M.map (t_em (fun i => decide (i = g))) := by
  induction M with
  | nil => rfl
  | cons p r ih =>
    rw [List.flatMap_cons, List.map_cons, ih (fun q hq => h q (List.mem_cons_of_mem _ hq))]
    have h1 := h p List.mem_cons_self
    simp only [t_gc, if_neg h1, t_em, decide_eq_true_eq]
    split <;> rfl
theorem t_fl_close (hI : t_I dd ow ki na ha L) {M : tL} {f g : Nat} {ki' : zA} (hf1 : 1 ≤ f) (hf2 : f ≤ 16) (hfg : f ≠ g) (hk' : ∀ x, 1 ≤ x → x ≤ 16 → ki' x = if x = f then 2 else if x = g then 0 else ki x)
    (hM : ∀ x, x ∈ t_fs M ↔ x = f ∨ (x ∈ t_fs L ∧ x ≠ g)) (hg : ∀ y, 1 ≤ y → y ≤ 16 → ki y = 2 → na y = na f → y = g) : t_fl ki' na ha M := by
  have hF := hI.2.2.2
  refine ⟨fun x hx hx2 => ?_, fun x hx hx2 h3 => ?_, fun x y hx hx2 hy hy2 h3 h4 h5 => ?_, fun x y hx hx2 hy hy2 h3 h4 h5 => ?_⟩
  · rw [hM, hk' x hx hx2]
    by_cases e : x = f
    · rw [if_pos e]; exact ⟨⟨fun _ => by decide, fun _ => Or.inl e⟩, Or.inr (Or.inr rfl)⟩
    · by_cases e2 : x = g
      · rw [if_neg e, if_pos e2]
        exact ⟨⟨fun h => absurd e2 (h.resolve_left e).2, fun h => absurd rfl h⟩, Or.inl rfl⟩
      · rw [if_neg e, if_neg e2]
        have h1 := hF.1 x hx hx2
        exact ⟨⟨fun h => h1.1.mp (h.resolve_left e).1, fun h => Or.inr ⟨h1.1.mpr h, e2⟩⟩, h1.2⟩
  · rw [hk' x hx hx2] at h3
    by_cases e : x = f
    · rw [if_pos e] at h3; exact absurd h3 (by decide)
    · by_cases e2 : x = g
      · rw [if_neg e, if_pos e2] at h3; exact absurd h3 (by decide)
      · rw [if_neg e, if_neg e2] at h3; exact hF.2.1 x hx hx2 h3
  · rw [hk' x hx hx2] at h3
    rw [hk' y hy hy2] at h4
    by_cases e : x = f
    · rw [if_pos e] at h3; exact absurd h3 (by decide)
    · by_cases e2 : x = g
      · rw [if_neg e, if_pos e2] at h3; exact absurd h3 (by decide)
      · rw [if_neg e, if_neg e2] at h3
        by_cases e3 : y = f
        · rw [if_pos e3] at h4; exact absurd h4 (by decide)
        · by_cases e4 : y = g
          · rw [if_neg e3, if_pos e4] at h4; exact absurd h4 (by decide)
          · rw [if_neg e3, if_neg e4] at h4; exact hF.2.2.1 x y hx hx2 hy hy2 h3 h4 h5
  · rw [hk' x hx hx2] at h3
    rw [hk' y hy hy2] at h4
    have hno : ∀ y, 1 ≤ y → y ≤ 16 → y ≠ f → (if y = f then (2 : Int32) else if y = g then 0 else ki y) = 2 → ¬ na y = na f := by
      intro y k1 k2 k3 k4 k5
      rw [if_neg k3] at k4
      by_cases k6 : y = g
      · rw [if_pos k6] at k4; exact absurd k4 (by decide)
      · rw [if_neg k6] at k4; exact k6 (hg y k1 k2 k4 k5)
    by_cases e : x = f
    · by_cases e3 : y = f
      · rw [e, e3]
      · exact absurd (by rw [← h5, e]) (hno y hy hy2 e3 h4)
    · by_cases e3 : y = f
      · exact absurd (by rw [h5, e3]) (hno x hx hx2 e h3)
      · have h6 := hno x hx hx2 e h3
        have h7 := hno y hy hy2 e3 h4
        rw [if_neg e] at h3
        rw [if_neg e3] at h4
        by_cases e2 : x = g
        · rw [if_pos e2] at h3; exact absurd h3 (by decide)
        · by_cases e4 : y = g
          · rw [if_pos e4] at h4; exact absurd h4 (by decide)
          · rw [if_neg e2] at h3; rw [if_neg e4] at h4; exact hF.2.2.2 x y hx hx2 hy hy2 h3 h4 h5
/-- close, past its refusals; g is the older file, or 0 -/
theorem t_close2 {A B : tL} {f n u g : Nat} {ki' nx2 : zA} {left cnt old more : Int32} (hI : t_I dd ow ki na ha (A ++ (f, n) :: B)) (hf : f ≠ 0) (hu1 : 1 ≤ u) (hu : u ≤ n) (hi : ∀ t, t < 48 → ca t = ints t) (hmo : mo = false ∧ le = -1)
    (hfg : f ≠ g) (hg16 : g ≤ 16) (hgk : ki g = 2 ∨ g = 0) (hold : d_perm dd.1 dd.2.2.1 dd.2.2.2.2 (na f) = old) (Ho : ∀ C p D, A ++ (f, n) :: B = C ++ p :: D → (nI C.length = old ↔ p.1 = g ∧ g ≠ 0)) (hg : ∀ y, 1 ≤ y → y ≤ 16 → ki y = 2 → na y = na f → y = g)
    (hk' : ∀ x, 1 ≤ x → x ≤ 16 → ki' x = if x = f then 2 else if x = g then 0 else ki x)
    (hx2 : ∀ t, t < 48 → nx2 t = if ow t = nI g then (if g = 0 then (if ow t = nI f then (if m_cnt ow (nI f) t < nI u then ow t else 0) else ow t) else 0) else if ow t = nI f then (if m_cnt ow (nI f) t < nI u then ow t else 0) else ow t)
    (hmore : more = nI (n - u + if g = 0 then 0 else t_len g (A ++ (f, n) :: B))) :
    k_map [1, 4, 2, 3] (v_ent3 (true, left, cnt) dd (v_dC dd ee (nI A.length) (nI u)) (d_emp (v_dC dd ee (nI A.length) (nI u)).1 (v_dC dd ee (nI A.length) (nI u)).2.1 (v_dC dd ee (nI A.length) (nI u)).2.2.2.2 - d_emp dd.1 dd.2.1 dd.2.2.2.2)).1 = (m_clo2 (true, left, cnt, sq) false ow nx2 ki ki' more).2.1 ∧
    ((v_ent3 (true, left, cnt) dd (v_dC dd ee (nI A.length) (nI u)) (d_emp (v_dC dd ee (nI A.length) (nI u)).1 (v_dC dd ee (nI A.length) (nI u)).2.1 (v_dC dd ee (nI A.length) (nI u)).2.2.2.2 - d_emp dd.1 dd.2.1 dd.2.2.2.2)).1 = 0 → (v_ent3 (true, left, cnt) dd (v_dC dd ee (nI A.length) (nI u)) (d_emp (v_dC dd ee (nI A.length) (nI u)).1 (v_dC dd ee (nI A.length) (nI u)).2.1 (v_dC dd ee (nI A.length) (nI u)).2.2.2.2 - d_emp dd.1 dd.2.1 dd.2.2.2.2)).2.1 = (m_clo2 (true, left, cnt, sq) false ow nx2 ki ki' more).1) ∧
    t_R (v_ent3 (true, left, cnt) dd (v_dC dd ee (nI A.length) (nI u)) (d_emp (v_dC dd ee (nI A.length) (nI u)).1 (v_dC dd ee (nI A.length) (nI u)).2.1 (v_dC dd ee (nI A.length) (nI u)).2.2.2.2 - d_emp dd.1 dd.2.1 dd.2.2.2.2)).2.2.1 ca (v_ent3 (true, left, cnt) dd (v_dC dd ee (nI A.length) (nI u)) (d_emp (v_dC dd ee (nI A.length) (nI u)).1 (v_dC dd ee (nI A.length) (nI u)).2.1 (v_dC dd ee (nI A.length) (nI u)).2.2.2.2 - d_emp dd.1 dd.2.1 dd.2.2.2.2)).2.2.2.1 sq le
      (m_clo2 (true, left, cnt, sq) false ow nx2 ki ki' more).2.2.1 mo gr ints (m_clo2 (true, left, cnt, sq) false ow nx2 ki ki' more).2.2.2.1 (m_clo2 (true, left, cnt, sq) false ow nx2 ki ki' more).2.2.2.2.2 na ha mv fr sh := by
  obtain ⟨b1, b2, b3, b4, b5, b6, b7, b8, b9, b10, b11⟩ := t_of hI hf
  have hno := t_wf_no hI.1 hf
  have hb := t_wf_b hI.1
  have hk : ∀ p ∈ A ++ (f, n) :: B, p.1 ≠ f → t_k ki na ha p.1 = t_k ki' na ha p.1 := by
    intro p hp hpf
    by_cases hp0 : p.1 = 0
    · rw [hp0, t_k_0, t_k_0]
    · have h1 := t_I_id hI (i := p.1) (n := p.2) hp hp0
      have h2 := hk' p.1 h1.1 h1.2.1
      rw [if_neg hpf] at h2
      by_cases hpg : p.1 = g
      · rw [if_pos hpg] at h2
        have h3 : ki p.1 = 2 := by rw [hpg]; exact hgk.resolve_right (by rw [← hpg]; exact hp0)
        rw [t_k_2 hp0 (by rw [h3]; decide), t_k_2 hp0 (by rw [h2]; decide)]
      · rw [if_neg hpg] at h2
        simp only [t_k, h2]
  have hraw : (A ++ (f, n) :: B).flatMap (t_gc f u g) = A.map (t_em (fun i => decide (i = g))) ++ (((f, u) :: t_z (n - u)) ++ B.map (t_em (fun i => decide (i = g)))) := by
    rw [List.flatMap_append, List.flatMap_cons, t_gc_no hno.1, t_gc_no hno.2]
    simp only [t_gc, if_true]
  have hz := t_z_n (n - u)
  have hkf : ki' f = 2 := by rw [hk' f (by omega) b10, if_pos rfl]
  have hd : t_dl (v_dC dd ee (nI A.length) (nI u)) (t_k ki' na ha) (t_cat [] (A.map (t_em (fun i => decide (i = g))) ++ (((f, u) :: t_z (n - u)) ++ B.map (t_em (fun i => decide (i = g)))))) := by
    have h1 := t_dCF (dd := dd) (κ := t_k ki' na ha) (κo := t_k ki na ha) (f := f) (u := u) (g := g) (k := nI A.length) (nm := na f) (old := old) (t_k_ok _ _ _) hI.1 hI.2.2.1 hf (t_k_2 hf (by rw [hkf]; decide)) hk
      (fun p hp he => by
        obtain ⟨C, D, e2⟩ := List.append_of_mem hp
        obtain ⟨i, m⟩ := p
        simp only at he
        subst he
        have := t_uniq hf hI.1.2.2.2.1 e2
        simp only; omega)
      (fun C p D e2 => by
        constructor
        · intro h
          have hl := hI.1.2.2.2.2
          rw [e2] at hl
          simp only [List.length_append, List.length_cons] at hl
          have h2 := (nI_eq (by omega) (by omega)).mp h
          have h3 := List.append_inj e2 h2.symm
          have h4 := h3.2
          simp only [List.cons.injEq] at h4
          rw [← h4.1]
        · intro h
          obtain ⟨i, m⟩ := p
          simp only at h
          subst h
          rw [(t_uniq hf hI.1.2.2.2.1 e2).1])
      Ho (A ++ (f, n) :: B) [] [] (d_clear ee) rfl (t_dl_clear ee _) (by rw [hraw]; simp only [List.length_append, List.length_map, List.length_cons, List.length_nil]; omega)
    rw [hraw] at h1
    rw [v_dC, b5, hold, hI.2.2.1.1, nI_toInt (by simp only [List.length_append, List.length_cons]; omega), show ((((A ++ (f, n) :: B).length : Nat) : Int) - (0 : Int32).toInt).toNat = (A ++ (f, n) :: B).length by have : (0 : Int32).toInt = 0 := rfl; omega]
    exact h1
  have hr : t_raw (A.map (t_em (fun i => decide (i = g))) ++ (((f, u) :: t_z (n - u)) ++ B.map (t_em (fun i => decide (i = g))))) := by
    refine ⟨?_, fun p hp => ?_, ?_⟩
    · rw [t_sum_app, t_sum_app, t_sum, t_sum_z, t_em_sum, t_em_sum]; simp only; omega
    · rcases List.mem_append.mp hp with h | h
      · exact t_em_ok (fun q hq => hI.1.2.1 q (List.mem_append_left _ hq)) p h
      · rcases List.mem_append.mp h with h | h
        · rcases List.mem_cons.mp h with h | h
          · rw [h]; simp only; omega
          · exact t_z_ok p h
        · exact t_em_ok (fun q hq => hI.1.2.1 q (List.mem_append_right _ (List.mem_cons_of_mem _ hq))) p h
    · have h4 := hI.1.2.2.2.1
      rw [t_fs_mid hf] at h4
      rw [t_fs_app, t_fs_app, t_em_fs, t_em_fs]
      simp only [t_fs, if_neg hf, t_fs_z, List.cons_append, List.nil_append]
      exact h4.sublist (List.Sublist.append List.filter_sublist (List.Sublist.cons_cons _ List.filter_sublist))
  have hS : ∀ x : Nat, x ≤ 16 → (nI x = nI g ↔ x = g) := fun x hx => nI_eq (by omega) (by omega)
  have hle16 : ∀ (M : tL) t, (∀ p ∈ M, p ∈ A ++ (f, n) :: B) → t_ex M t ≤ 16 := by
    intro M t hM
    rcases Nat.lt_or_ge t (t_sum M) with h | h
    · obtain ⟨C, i, m, D, e2, h3, h4⟩ := t_loc M t h
      have h5 := hI.1.2.1 (i, m) (hM _ (by rw [e2]; simp))
      rw [e2, t_ex_at h3 h4]; exact h5.2
    · rw [t_ex_over h]; omega
  have hx : ∀ t, t < 48 → nx2 t = nI (t_ex (A.map (t_em (fun i => decide (i = g))) ++ (((f, u) :: t_z (n - u)) ++ B.map (t_em (fun i => decide (i = g))))) t) := by
    intro t ht
    have h1 := t_ow_iff hI.1 hI.2.1 hf ht
    have h2 := hI.2.1 t ht
    rw [hx2 t ht, List.cons_append, t_ex_2, t_ex_z, t_em_sum, t_em_ex, t_em_ex]
    simp only [decide_eq_true_eq]
    rw [t_ex_2] at h2
    by_cases k1 : t < t_sum A
    · rw [if_pos k1] at h2 ⊢
      have k2 : ¬ ow t = nI f := fun h => by have := h1.mp h; omega
      simp only [if_neg k2]
      rw [h2]
      simp only [hS _ (hle16 A t (fun p hp => List.mem_append_left _ hp))]
      by_cases k3 : t_ex A t = g
      · rw [if_pos k3, if_pos k3]
        split
        · rename_i k4; rw [k3, k4]
        · rfl
      · rw [if_neg k3, if_neg k3]
    · rw [if_neg k1] at h2 ⊢
      by_cases k2 : t < t_sum A + n
      · rw [if_pos k2] at h2
        have k3 : ow t = nI f := h2
        have k4 : ¬ nI f = nI g := fun h => hfg ((hS f b10).mp h)
        rw [k3, if_neg k4, if_pos rfl, t_cnt_in hI.1 hI.2.1 hf (by omega) k2]
        by_cases k5 : t < t_sum A + u
        · rw [if_pos (nI_lt (by omega) (by omega)), if_pos k5]
        · rw [if_neg (nI_nlt (by omega) (by omega)), if_neg k5, if_pos (by omega)]; rfl
      · rw [if_neg k2] at h2
        have k3 : ¬ ow t = nI f := fun h => by have := h1.mp h; omega
        simp only [if_neg k3]
        rw [if_neg (show ¬ t < t_sum A + u by omega), if_neg (show ¬ t - (t_sum A + u) < n - u by omega), show t - (t_sum A + u) - (n - u) = t - (t_sum A + n) by omega, h2]
        simp only [hS _ (hle16 B _ (fun p hp => List.mem_append_right _ (List.mem_cons_of_mem _ hp)))]
        by_cases k5 : t_ex B (t - (t_sum A + n)) = g
        · rw [if_pos k5, if_pos k5]
          split
          · rename_i k4; rw [k5, k4]
          · rfl
        · rw [if_neg k5, if_neg k5]
  have hans : d_emp (v_dC dd ee (nI A.length) (nI u)).1 (v_dC dd ee (nI A.length) (nI u)).2.1 (v_dC dd ee (nI A.length) (nI u)).2.2.2.2 - d_emp dd.1 dd.2.1 dd.2.2.2.2 = more := by
    have h0 : t_len 0 ((f, u) :: t_z (n - u)) = n - u := by
      rw [t_len, t_len_z, if_neg hf, Nat.zero_add]
    rw [t_emp (t_k_ok _ _ _) hd, t_emp (t_k_ok _ _ _) hI.2.2.1, hmore, t_cat_len, t_len_app, t_len_app, h0]
    have h1 : ∀ M : tL, t_len 0 (M.map (t_em (fun i => decide (i = g)))) = t_len 0 M + if g = 0 then 0 else t_len g M := by
      intro M
      by_cases h : g = 0
      · subst h; rw [t_em_0, if_pos rfl]; omega
      · rw [t_em_len g h, if_neg h]
    have h2 : t_len 0 (A ++ (f, n) :: B) = t_len 0 A + t_len 0 B := by
      rw [t_len_app]; simp only [t_len, if_neg hf]; omega
    have h3 : t_len g (A ++ (f, n) :: B) = t_len g A + t_len g B := by
      rw [t_len_app]; simp only [t_len, if_neg hfg]; omega
    rw [h1, h1, h2, h3]
    refine z_mi rfl rfl ?_ |>.trans ?_
    · simp only [t_len]; omega
    · congr 1
      simp only [t_len]
      split <;> omega
  rw [hans]
  simp only [v_ent3, m_clo2]
  rcases t_rf_or hd (t_raw_nf hr) (t_raw_ow hx) with ⟨r1, r2, r3⟩ | ⟨r2, r3⟩
  · obtain ⟨c1, c2, c3⟩ := t_chg (w := (true, left, cnt)) (dd := dd) (wi := false) (sq := sq) (ow := ow) rfl (fun h => by cases h) hd (t_raw_nf hr) (t_raw_ow hx)
    simp only [r2, if_pos r3, if_true]
    rw [c1]
    simp only
    by_cases hc : (v_change (true, left, cnt) dd (v_dC dd ee (nI A.length) (nI u))).1 = false
    · simp only [if_pos hc]
      rw [if_pos hc] at c2
      rw [c2]
      exact ⟨rfl, fun _ => (by first | rfl | trivial), rfl, hi, _, hI, Or.inl hmo⟩
    · simp only [if_neg hc]
      rw [if_neg hc] at c2
      rw [c2]
      refine ⟨rfl, fun _ => (by first | rfl | trivial), rfl, hi, _, t_new hr hx hd r1 (t_fl_close hI (by omega) b10 hfg hk' (fun x => ?_) hg), Or.inl hmo⟩
      rw [t_fs_mid hf, t_fs_app, t_fs_app, t_em_fs, t_em_fs]
      simp only [t_fs, if_neg hf, t_fs_z, List.cons_append, List.nil_append, List.mem_append, List.mem_cons, List.mem_filter, Bool.not_eq_true', decide_eq_false_iff_not]
      constructor
      · rintro (h | h | h)
        · exact Or.inr ⟨Or.inl h.1, h.2⟩
        · exact Or.inl h
        · exact Or.inr ⟨Or.inr (Or.inr h.1), h.2⟩
      · rintro (h | ⟨h | h | h, h2⟩)
        · exact Or.inr (Or.inl h)
        · exact Or.inl ⟨h, h2⟩
        · exact Or.inr (Or.inl h)
        · exact Or.inr (Or.inr ⟨h, h2⟩)
  · simp only [r2, if_neg r3, show ¬ (3 : Nat) = 0 by decide, if_false]
    exact ⟨rfl, fun h => (by cases h), rfl, hi, _, hI, Or.inl hmo⟩
theorem t_close (hR : t_R w ca dd sq le qq mo gr ints ow ki na ha mv fr sh) (h u : Int32) : k_map [1, 4, 2, 3] (v_close w dd ee h u).1 = (m_close qq false ow nx ki na ha h u).2.1 ∧ ((v_close w dd ee h u).1 = 0 → (v_close w dd ee h u).2.1 = (m_close qq false ow nx ki na ha h u).1) ∧
    t_R (v_close w dd ee h u).2.2.1 ca (v_close w dd ee h u).2.2.2.1 sq le (m_close qq false ow nx ki na ha h u).2.2.1 mo gr ints (m_close qq false ow nx ki na ha h u).2.2.2.1 (m_close qq false ow nx ki na ha h u).2.2.2.2.2 na ha mv fr sh := by
  obtain ⟨rfl, hi, L, hI, hm⟩ := hR
  obtain ⟨up, left, cnt⟩ := w
  cases up with
  | false => exact ⟨rfl, fun h => (by cases h), rfl, hi, L, hI, hm⟩
  | true =>
    simp only [v_close, v_pw, m_close, Bool.true_eq_false, if_false, if_true]
    rcases t_tent hI h with ⟨h1, h2⟩ | ⟨A, f, n, B, e, h1, h2, h3, h4, h5, h6⟩
    · simp only [v_T] at h1
      simp only [v_rt, h1, h2, if_true, show nI 0 = (0 : Int32) from rfl]
      exact ⟨rfl, fun h => (by cases h), rfl, hi, L, hI, hm⟩
    · subst e
      have hP := t_perm hI (na f)
      obtain ⟨b1, b2, b3, b4, b5, b6, b7, b8, b9, b10, b11⟩ := t_of hI h1
      simp only [v_T] at h5
      simp only [v_rt, v_T, h5, h6, if_neg b8, if_neg b9, b1, b3, if_true]
      by_cases hu0 : u < 1
      · simp only [if_pos hu0]; exact ⟨rfl, fun h => (by cases h), rfl, hi, _, hI, hm⟩
      by_cases hun : u ≤ nI n
      case neg => simp only [if_neg hu0, if_neg hun]; exact ⟨rfl, fun h => (by cases h), rfl, hi, _, hI, hm⟩
      simp only [if_neg hu0, if_pos hun]
      have hu00 : ¬ u < 0 := fun h => hu0 (by rw [Int32.lt_iff_toInt_lt] at h ⊢; have e0 : (0 : Int32).toInt = 0 := rfl; have e1 : (1 : Int32).toInt = 1 := rfl; omega)
      obtain ⟨v, hv, rfl⟩ := nI_of hu00
      have hvn : v ≤ n := (nI_leI hv (by omega)).mp hun
      have hv1 : 1 ≤ v := by
        rcases Nat.lt_or_ge v 1 with h | h
        · exact absurd (nI_lt (b := 1) h (by decide)) hu0
        · exact h
      simp only [m_clo1]
      have hgv : ∀ t, t < 48 → m_gv ow (m_cp nx ow) (nI f) (nI v) t = if ow t = nI f then (if m_cnt ow (nI f) t < nI v then ow t else 0) else ow t := fun t ht => by
        rw [m_gv, m_gvF, if_pos ht, t_cp_at ht]
      have hcm : nI n - nI v = nI (n - v) := z_mi rfl rfl hvn
      rcases hP with ⟨g1, g2⟩ | ⟨C, g, m, D, e2, g1, g2, g3, g4, g5, g6⟩
      · rw [g2, if_pos (show nI 0 ≤ (0 : Int32) by decide)]
        refine t_close2 (g := 0) (old := -1) hI h1 hv1 hvn hi (t_mid_on hm rfl) h1 (by omega) (Or.inr rfl) g1 (fun C p D e3 => ?_) (fun y k1 k2 k3 k4 => ?_) (fun x k1 k2 => ?_) (fun t ht => ?_) ?_
        · have hl := hI.1.2.2.2.2
          rw [e3] at hl
          simp only [List.length_append, List.length_cons] at hl
          exact ⟨fun h => absurd h (t_neg1 (by omega)), fun h => absurd rfl h.2⟩
        · exfalso
          rcases m_permF_or ki na (na f) 16 with ⟨-, h9⟩ | ⟨h9, -⟩
          · exact h9 y k1 k2 ⟨k3, k4⟩
          · rw [show m_permF ki na (na f) 16 = 0 from g2] at h9; omega
        · by_cases k3 : x = f
          · rw [if_pos k3, k3, t_upd_e]
          · rw [if_neg k3, if_neg (by omega), t_upd_n k3]
        · rw [hgv t ht, if_pos rfl, ite_self]
        · rw [if_pos rfl, b3, hcm, Nat.add_zero]
      · rw [g6, if_neg (fun h => g1 ((t_le0 (by omega)).mp h))]
        have hfg : f ≠ g := fun h => by rw [h, g3] at h3; exact absurd h3 (by decide)
        have hgl : m_cnt ow (nI g) 48 = nI (t_len g (A ++ (f, n) :: B)) := t_cnt hI.1 hI.2.1 g2
        refine t_close2 (g := g) (old := nI C.length) hI h1 hv1 hvn hi (t_mid_on hm rfl) hfg g2 (Or.inl g3) g5 (fun C' p D' e3 => ?_) (fun y k1 k2 k3 k4 => ?_) (fun x k1 k2 => ?_) (fun t ht => ?_) ?_
        · have hl := hI.1.2.2.2.2
          have hl2 := hI.1.2.2.2.2
          rw [e3] at hl
          rw [e2] at hl2
          simp only [List.length_append, List.length_cons] at hl hl2
          have e4 := e3.symm.trans e2
          constructor
          · intro h
            have h8 := (nI_eq (by omega) (by omega)).mp h
            have h9 := (List.append_inj e4 h8).2
            simp only [List.cons.injEq] at h9
            rw [h9.1]; exact ⟨rfl, g1⟩
          · rintro ⟨h8, -⟩
            obtain ⟨i, k⟩ := p
            simp only at h8
            subst h8
            have h9 := hI.1.2.2.2.1
            rw [e3] at h9
            rw [(t_uniq g1 h9 e4).1]
        · have hge : 1 ≤ g := by omega
          exact hI.2.2.2.2.2.2 y g k1 k2 hge g2 k3 g3 (by rw [k4, g4])
        · by_cases k3 : x = f
          · rw [if_pos k3, k3, t_upd_e]
          · rw [if_neg k3, t_upd_n k3]
            by_cases k4 : x = g
            · rw [if_pos k4, k4, t_upd_e]
            · rw [if_neg k4, t_upd_n k4]
        · rw [m_gv, m_gvF, if_pos ht, if_neg (t_cnt0 (by omega)), hgv t ht, if_neg g1]
        · rw [if_neg g1, hgl, b3, hcm, nI_add]
end TE
