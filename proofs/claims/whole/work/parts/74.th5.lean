/-! THEORY: power, changes, new directories -/
theorem t_w1 {w : zP} {sq wi : Bool} (hw : w.1 = true) : m_write (w.1, w.2.1, w.2.2, sq) wi = ((pw_write w).1, (pw_write w).2.1, (pw_write w).2.2.1, (pw_write w).2.2.2, if (pw_write w).1 = false then sq else (sq || wi)) ∧ (pw_write w).2.1 = (pw_write w).1 := by
  obtain ⟨up, left, cnt⟩ := w
  simp only at hw
  subst hw
  by_cases h : left = 0
  · simp [m_write, pw_write, h]
  · cases sq <;> cases wi <;> simp [m_write, pw_write, h]
theorem t_wrs {wi sq : Bool} (hs : wi = true → sq = true) : ∀ (k : Nat) (w : zP), w.1 = true → m_writes wi k (w.1, w.2.1, w.2.2, sq) = ((v_writes k w).1, (v_writes k w).2.1, (v_writes k w).2.2.1, (v_writes k w).2.2.2, sq) ∧ (v_writes k w).2.1 = (v_writes k w).1
  | 0, w, hw => ⟨rfl, hw⟩
  | k + 1, w, hw => by
    obtain ⟨h1, h2⟩ := t_w1 (sq := sq) (wi := wi) hw
    have h3 : (sq || wi) = sq := by cases wi <;> simp_all
    rw [h3, ite_self] at h1
    rw [m_writes, v_writes, h1]
    simp only
    by_cases h : (pw_write w).1 = false
    · rw [if_pos h, if_pos h]; exact ⟨rfl, by rw [h2, h]⟩
    · rw [if_neg h, if_neg h]
      exact t_wrs hs k _ (by rw [h2]; simpa using h)
theorem t_nw {ee : zD} {nx : zA} {κ : tK} {L : tL} (hd : t_dl ee κ L) (hn : t_nf L) (ho : t_ow nx L) : v_n ee = m_nw nx := by
  have h1 : nI L.length + 4 - 1 = nI L.length + 3 := by
    have h2 : nI L.length + 4 = nI (L.length + 4) := nI_add _ 4
    have h3 : nI L.length + 3 = nI (L.length + 3) := nI_add _ 3
    rw [h2, h3]
    exact z_mi (i := L.length + 4) (j := 1) rfl rfl (by omega)
  rw [v_n, m_nw, hd.1, t_runs hn ho, h1]
theorem t_chg {w : zP} {dd ee : zD} {ow nx : zA} {κ : tK} {L : tL} {wi sq : Bool} (hw : w.1 = true) (hs : wi = true → sq = true) (hd : t_dl ee κ L) (hn : t_nf L) (ho : t_ow nx L) :
    m_change (w.1, w.2.1, w.2.2, sq) wi ow nx = ((v_change w dd ee).1, ((v_change w dd ee).2.1.1, (v_change w dd ee).2.1.2.1, (v_change w dd ee).2.1.2.2, sq), if (v_change w dd ee).1 = false then ow else m_cp ow nx) ∧
    (v_change w dd ee).2.2 = (if (v_change w dd ee).1 = false then dd else d_take dd ee) ∧ (v_change w dd ee).2.1.1 = (v_change w dd ee).1 := by
  obtain ⟨h1, h2⟩ := t_wrs (wi := wi) (sq := sq) hs (v_n ee).toNatClampNeg w hw
  rw [m_change, v_change, ← t_nw hd hn ho, h1]
  simp only
  by_cases h : (v_writes (v_n ee).toNatClampNeg w).1 = false
  · simp only [if_pos h]
    rw [h] at h2
    exact ⟨rfl, rfl, h2⟩
  · simp only [if_neg h]
    have h3 : (v_writes (v_n ee).toNatClampNeg w).1 = true := by simpa using h
    rw [h3] at h2
    exact ⟨rfl, rfl, h2⟩
def t_raw (M : tL) : Prop := t_sum M = 48 ∧ (∀ p ∈ M, 1 ≤ p.2 ∧ p.1 ≤ 16) ∧ (t_fs M).Nodup
theorem t_raw_nf {M : tL} (h : t_raw M) : t_nf (t_cat [] M) := by
  refine ⟨?_, t_cat_ok (fun p hp => by simp at hp) h.2.1, t_cat_na [] M trivial, ?_⟩
  · rw [t_cat_sum, h.1]; rfl
  · rw [t_cat_fs]; exact h.2.2
theorem t_raw_ow {M : tL} {nx : zA} (hx : ∀ t, t < 48 → nx t = nI (t_ex M t)) : t_ow nx (t_cat [] M) := by
  intro t ht
  rw [hx t ht, t_cat_ex, List.nil_append]
theorem t_fl_fs {ki na ha : zA} {L M : tL} (h : t_fl ki na ha L) (e : t_fs M = t_fs L) : t_fl ki na ha M := by
  refine ⟨fun f h1 h2 => ?_, h.2⟩
  rw [e]; exact h.1 f h1 h2
theorem t_new {M : tL} {dd ee : zD} {ow nx ki na ha : zA} (h : t_raw M) (hx : ∀ t, t < 48 → nx t = nI (t_ex M t)) (hd : t_dl ee (t_k ki na ha) (t_cat [] M)) (hl : (t_cat [] M).length ≤ 16) (hf : t_fl ki na ha M) : t_I (d_take dd ee) (m_cp ow nx) ki na ha (t_cat [] M) := by
  have hn := t_raw_nf h
  refine ⟨⟨hn.1, hn.2.1, hn.2.2.1, hn.2.2.2, hl⟩, fun t ht => ?_, t_dl_take hd, t_fl_fs hf (by rw [t_cat_fs]; rfl)⟩
  simp only [m_cp, m_cpF, if_pos ht]
  exact t_raw_ow hx t ht
theorem t_cp_at {f g : zA} {t : Nat} (h : t < 48) : m_cp f g t = g t := by simp only [m_cp, m_cpF, if_pos h]
theorem t_ex_z (m : Nat) (B : tL) (t : Nat) : t_ex (t_z m ++ B) t = if t < m then 0 else t_ex B (t - m) := by
  by_cases h : m = 0
  · subst h; rw [if_neg (by omega)]; rfl
  · simp only [t_z, if_neg h, List.cons_append, List.nil_append, t_ex]
theorem t_sum_z (m : Nat) : t_sum (t_z m) = m := by
  by_cases h : m = 0
  · subst h; rfl
  · simp only [t_z, if_neg h, t_sum_1]
theorem t_fs_z (m : Nat) : t_fs (t_z m) = [] := by
  by_cases h : m = 0
  · subst h; rfl
  · simp only [t_z, if_neg h]; rfl
theorem t_len_z (m : Nat) : t_len 0 (t_z m) = m := by
  by_cases h : m = 0
  · subst h; rfl
  · simp only [t_z, if_neg h, t_len, if_true, Nat.add_zero]
theorem t_z_ok {m : Nat} : ∀ p ∈ t_z m, 1 ≤ p.2 ∧ p.1 ≤ 16 := by
  intro p hp
  by_cases h : m = 0
  · simp [t_z, h] at hp
  · simp only [t_z, if_neg h, List.mem_singleton] at hp
    subst hp
    simp only; omega
theorem t_z_n (m : Nat) : (t_z m).length ≤ 1 := by
  by_cases h : m = 0
  · simp [t_z, h]
  · simp [t_z, h]
/-- files given up -/
def t_em (S : Nat → Bool) (p : Nat × Nat) : Nat × Nat := if S p.1 = true then (0, p.2) else p
theorem t_em_sum (S : Nat → Bool) (M : tL) : t_sum (M.map (t_em S)) = t_sum M := by
  induction M with
  | nil => rfl
  | cons p r ih =>
    simp only [List.map_cons, t_sum, ih, t_em]
    split <;> rfl
theorem t_em_ex (S : Nat → Bool) (M : tL) (t : Nat) : t_ex (M.map (t_em S)) t = if S (t_ex M t) = true then 0 else t_ex M t := by
  induction M generalizing t with
  | nil =>
    show (0 : Nat) = if S 0 = true then 0 else 0
    cases S 0 <;> rfl
  | cons p r ih =>
    have h : (t_em S p).2 = p.2 := by unfold t_em; split <;> rfl
    simp only [List.map_cons, t_ex, h, ih]
    by_cases h1 : t < p.2
    · simp only [if_pos h1, t_em]
      split <;> rfl
    · simp only [if_neg h1]
theorem t_em_fs (S : Nat → Bool) (M : tL) : t_fs (M.map (t_em S)) = (t_fs M).filter (fun i => !S i) := by
  induction M with
  | nil => rfl
  | cons p r ih =>
    obtain ⟨i, n⟩ := p
    simp only [List.map_cons, t_fs, ih, t_em]
    by_cases hi : i = 0
    · subst hi
      by_cases hs : S 0 = true
      · simp [hs]
      · simp [hs]
    · by_cases hs : S i = true
      · simp [hs, hi]
      · simp [hs, hi]
theorem t_em_ok {S : Nat → Bool} {M : tL} (h : ∀ p ∈ M, 1 ≤ p.2 ∧ p.1 ≤ 16) : ∀ p ∈ M.map (t_em S), 1 ≤ p.2 ∧ p.1 ≤ 16 := by
  intro p hp
  obtain ⟨q, hq, e⟩ := List.mem_map.mp hp
  have h1 := h q hq
  rw [← e]
  unfold t_em
  split
  · simp only; omega
  · exact h1
theorem t_em_len (g : Nat) (hg : g ≠ 0) (M : tL) : t_len 0 (M.map (t_em (fun i => decide (i = g)))) = t_len 0 M + t_len g M := by
  induction M with
  | nil => rfl
  | cons p r ih =>
    obtain ⟨i, n⟩ := p
    simp only [List.map_cons, t_len, ih, t_em, decide_eq_true_eq]
    by_cases h1 : i = g
    · subst h1; simp [hg]; omega
    · simp only [if_neg h1]; omega
theorem t_em_0 (M : tL) : M.map (t_em (fun i => decide (i = 0))) = M := by
  induction M with
  | nil => rfl
  | cons p r ih =>
    obtain ⟨i, n⟩ := p
    rw [List.map_cons, ih]
    unfold t_em
    by_cases h1 : i = 0
    · subst h1; rfl
    · simp [h1]
def t_mid (L : tL) (w : zP) (sq : Bool) (le : Int32) (mo : Bool) (gr mv fr sh : Int32) : Prop :=
  (mo = false ∧ le = -1) ∨ (mo = true ∧ sq = true ∧ w.1 = false ∧ ∃ A n f m B g, L = A ++ (0, n) :: (f, m) :: B ∧ (∀ p ∈ A, p.1 ≠ 0) ∧ f ≠ 0 ∧ mv = nI f ∧ fr = nI (t_sum A + n) ∧ sh = nI n ∧ gr = nI g ∧ le = nI g ∧ g < m)
/-- what holds between the class and the reference -/
def t_R (w : zP) (ca : zA) (dd : zD) (sq : Bool) (le : Int32) (qq : zQ) (mo : Bool) (gr : Int32) (ints ow ki na ha : zA) (mv fr sh : Int32) : Prop :=
  qq = (w.1, w.2.1, w.2.2, sq) ∧ (∀ t, t < 48 → ca t = ints t) ∧ ∃ L, t_I dd ow ki na ha L ∧ t_mid L w sq le mo gr mv fr sh
theorem t_mid_on {L : tL} {w : zP} {sq : Bool} {le : Int32} {mo : Bool} {gr mv fr sh : Int32} (h : t_mid L w sq le mo gr mv fr sh) (hw : w.1 = true) : mo = false ∧ le = -1 := by
  rcases h with h | ⟨-, -, h, -⟩
  · exact h
  · rw [hw] at h; cases h
