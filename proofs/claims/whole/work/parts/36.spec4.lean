theorem m_run_lt {ow : zA} {q : Int32} (h : (m_runR ow q).1 = true) : m_at ow q + 1 ≤ 48 := by
  have h1 : ¬ 48 ≤ nI (m_at ow q) := by
    intro h2
    rw [m_runR, if_pos h2] at h
    cases h
  exact z48_s (m_at_le ow _) rfl h1
theorem m_ow_in {ow : zA} (how : ∀ t, t < 48 → ∃ q, ow t = nI q ∧ q < 17) {a : Nat} (h : a + 1 ≤ 48) : vp_in (ow a) 17 := by
  obtain ⟨q, e, hq⟩ := how a h
  exact z_ix e hq (by decide)
/-- what fit found -/
theorem m_fitF_ok (ow : zA) (b : Int32) : ∀ (k x : Nat) (t : Int32 × Int32), x ≤ 48 → (t.2 = 99 ∨ ∃ a n, t = (nI a, nI n) ∧ a + n ≤ 48 ∧ ¬ nI n < b ∧ ow a = 0) →
    (((m_segF ow k x).foldl (m_fitS ow b) t).2 = 99 ∨ ∃ a n, (m_segF ow k x).foldl (m_fitS ow b) t = (nI a, nI n) ∧ a + n ≤ 48 ∧ ¬ nI n < b ∧ ow a = 0)
  | 0, _, _, _, h => h
  | k + 1, x, t, hx, h => by
    rw [m_segF]
    by_cases hl : x < 48
    · rw [if_pos hl]
      refine m_fitF_ok ow b k (x + m_rf ow x) _ (m_rf_le hl) ?_
      unfold m_fitS
      split
      · rename_i h0
        split
        · exact h
        · rename_i h1
          split
          · exact h
          · exact Or.inr ⟨x, m_rf ow x, rfl, m_rf_le hl, h1, h0⟩
      · exact h
    · rw [if_neg hl]; exact h
theorem m_fit_ok {ow : zA} {b ra ra1 rl1 : Int32} (h : m_fitR ow b ra = (true, ra1, rl1)) : ∃ a n, ra1 = nI a ∧ a + n ≤ 48 ∧ ¬ nI n < b ∧ ow a = 0 := by
  have h1 : ¬ 99 ≤ (m_fit ow b ra).2 := by
    intro h2
    rw [m_fitR, if_pos h2] at h
    cases h
  have h3 : m_fit ow b ra = (ra1, rl1) := by
    rw [m_fitR, if_neg h1] at h
    exact (Prod.mk.inj h).2
  rcases m_fitF_ok ow b 49 0 (ra, 99) (by omega) (Or.inl rfl) with h2 | ⟨a, n, h2, h4, h5, h6⟩
  · exact absurd (by rw [show (m_fit ow b ra).2 = 99 from h2]; decide) h1
  · have h7 : m_fit ow b ra = (nI a, nI n) := h2
    rw [h3] at h7
    exact ⟨a, n, (Prod.mk.inj h7).1, h4, h5, h6⟩
theorem z_p3 {α : Type} {R : Bool × α} (h : R.1 = true) : R = (true, R.2) := by
  rw [← h]
abbrev m_want (ow : zA) (b : Int32) : Int32 := if b ≤ 0 then (if m_lon ow 0 / 2 ≤ m_lon ow 1 then m_lon ow 1 else m_lon ow 0 / 2) else b
/-- the first file that there isn't: 17 for none -/
def m_ffF (ki : zA) : Nat → Nat → Nat
  | 0, f => f
  | k + 1, f => if ki f = 0 then f else m_ffF ki k (f + 1)
def m_ff (ki : zA) : Nat := m_ffF ki 16 1
def m_fhF (ki ha : zA) : Nat → Nat → Nat
  | 0, h => h
  | k + 1, h => if nI (m_hand ki ha (nI h)) ≤ 0 then h else m_fhF ki ha k (h + 1)
def m_fh (ki ha : zA) : Nat := m_fhF ki ha 4 0
def m_fillF (nx : zA) (a : Nat) (v : Int32) (j : Nat) : zA := fun t => if a ≤ t ∧ t < a + j then v else nx t
abbrev zE : Type := Int32 × Int32 × zQ × zA × zA × zA × zA × zA × Int32 × Int32
abbrev m_ent3 (qq : zQ) (wi : Bool) (ow nx ki na ha : zA) (f : Nat) (nm ra rl : Int32) : zE :=
  if m_runF nx 48 ≤ 16 then (if (m_change qq wi ow nx).1 = false then (-1, 0, (m_change qq wi ow nx).2.1, (m_change qq wi ow nx).2.2, nx, ki, na, ha, ra, rl) else
    (nI (m_fh ki ha), 0, (m_change qq wi ow nx).2.1, (m_change qq wi ow nx).2.2, nx, upd ki f 1, upd na f nm, upd ha f (nI (m_fh ki ha)), ra, rl)) else (0, 3, qq, ow, nx, ki, na, ha, ra, rl)
def m_ent2 (qq : zQ) (wi : Bool) (ow nx ki na ha : zA) (nm ra rl b : Int32) : zE :=
  if b = 0 then (0, 3, qq, ow, nx, ki, na, ha, ra, rl) else if (m_fitR ow b ra).1 = false then (0, 3, qq, ow, nx, ki, na, ha, (m_fitR ow b ra).2) else
    m_ent3 qq wi ow (m_fillF (m_cp nx ow) (m_fitR ow b ra).2.1.toNatClampNeg (nI (m_ff ki)) b.toNatClampNeg) ki na ha (m_ff ki) nm (m_fitR ow b ra).2.1 (m_fitR ow b ra).2.2
def m_enter (qq : zQ) (wi : Bool) (ow nx ki na ha : zA) (ra rl nm b : Int32) : zE :=
  if qq.1 = false then (0, 1, qq, ow, nx, ki, na, ha, ra, rl) else if m_nm nm = false then (0, 2, qq, ow, nx, ki, na, ha, ra, rl) else if b < 0 then (0, 2, qq, ow, nx, ki, na, ha, ra, rl) else if b ≤ 48 then
    (if m_many ki 1 16 = 4 then (0, 1, qq, ow, nx, ki, na, ha, ra, rl) else m_ent2 qq wi ow nx ki na ha nm ra rl (m_want ow b)) else (0, 2, qq, ow, nx, ki, na, ha, ra, rl)
theorem m_ent2_ok {qq : zQ} {wi : Bool} {ow nx ki na ha : zA} {nm ra rl b ra1 rl1 : Int32} {a f : Nat} (hz : ¬ b = 0) (hR : m_fitR ow b ra = (true, ra1, rl1)) (ea : ra1 = nI a) (hal : a < 2 ^ 31) (ef : m_ff ki = f) :
    m_ent2 qq wi ow nx ki na ha nm ra rl b = m_ent3 qq wi ow (m_fillF (m_cp nx ow) a (nI f) b.toNatClampNeg) ki na ha f nm ra1 rl1 := by
  rw [m_ent2, if_neg hz, hR, ef, ea]
  simp only [Bool.true_eq_false, if_false, nI_clamp hal]
theorem m_fill_0 (nx : zA) (a : Nat) (v : Int32) : m_fillF nx a v 0 = nx := by
  funext t
  have h : ¬ (a ≤ t ∧ t < a + 0) := by omega
  rw [m_fillF, if_neg h]
theorem m_fill_s {nx : zA} {a j : Nat} {v : Int32} : upd (m_fillF nx a v j) (a + j) v = m_fillF nx a v (j + 1) := by
  funext t
  by_cases h1 : t = a + j
  · subst h1; simp [upd, m_fillF]
  · by_cases h2 : a ≤ t ∧ t < a + j
    · have h3 : a ≤ t ∧ t < a + (j + 1) := by omega
      simp [upd, m_fillF, h1, h2, h3]
    · have h3 : ¬ (a ≤ t ∧ t < a + (j + 1)) := by omega
      simp [upd, m_fillF, h1, h2, h3]
theorem m_ff_s {ki : zA} {f r : Nat} (er : m_ffF ki (17 - f) f = r) (h : f + 1 ≤ 17) (c : ¬ ki f = 0) : m_ffF ki (17 - (f + 1)) (f + 1) = r := by
  rw [← er, show 17 - f = (17 - (f + 1)) + 1 by omega, m_ffF, if_neg c]
theorem m_ff_f {ki : zA} {f r : Nat} (er : m_ffF ki (17 - f) f = r) (h : f + 1 ≤ 17) (c : ki f = 0) : r = f := by
  rw [← er, show 17 - f = (17 - (f + 1)) + 1 by omega, m_ffF, if_pos c]
theorem m_ff_e {ki : zA} {f r : Nat} (er : m_ffF ki (17 - f) f = r) (h : f = 17) : r = 17 := by
  rw [← er, h]; rfl
theorem m_fh_s {ki ha : zA} {h r : Nat} (er : m_fhF ki ha (4 - h) h = r) (hh : h + 1 ≤ 4) (c : ¬ nI (m_hand ki ha (nI h)) ≤ 0) : m_fhF ki ha (4 - (h + 1)) (h + 1) = r := by
  rw [← er, show 4 - h = (4 - (h + 1)) + 1 by omega, m_fhF, if_neg c]
theorem m_fh_f {ki ha : zA} {h r : Nat} (er : m_fhF ki ha (4 - h) h = r) (hh : h ≤ 4) (c : nI (m_hand ki ha (nI h)) ≤ 0) : r = h := by
  rcases Nat.lt_or_ge h 4 with q | q
  · rw [← er, show 4 - h = (4 - (h + 1)) + 1 by omega, m_fhF, if_pos c]
  · rw [← er, show 4 - h = 0 by omega, m_fhF]
theorem m_fh_4 {ki ha : zA} {h : Nat} (h4 : m_hand ki ha (nI 4) = 0) (hh : h ≤ 4) (c : ¬ nI (m_hand ki ha (nI h)) ≤ 0) : h + 1 ≤ 4 := by
  rcases Nat.lt_or_ge h 4 with q | q
  · exact q
  · have e : h = 4 := by omega
    subst e
    exact absurd (by rw [h4]; decide) c
theorem z17_s {j : Nat} {x : Int32} (hj : j ≤ 17) (e : x = nI j) (c : ¬ 17 ≤ x) : j + 1 ≤ 17 := z_k_s (N := 17) (q := 17) rfl hj e c
theorem z17_e {j : Nat} {x : Int32} (hj : j ≤ 17) (e : x = nI j) (c : 17 ≤ x) : j = 17 := z_k_e (N := 17) (q := 17) rfl hj e c
/-- of a sum's bound -/
theorem z_sum_s {r b x : Int32} {a w j : Nat} (er : r = nI a) (eb : b = nI w) (h : a + w ≤ 48) (hj : j ≤ w) (e : x = nI (a + j)) (c : ¬ r + b ≤ x) : j + 1 ≤ w := by
  rcases Nat.lt_or_ge j w with q | q
  · exact q
  · exact absurd (by rw [z_pl er eb, e]; exact nI_le (by omega) (by omega)) c
theorem z_sum_e {r b x : Int32} {a w j : Nat} (er : r = nI a) (eb : b = nI w) (h : a + w ≤ 48) (hj : j ≤ w) (e : x = nI (a + j)) (c : r + b ≤ x) : j = w := by
  rcases Nat.lt_or_ge j w with q | q
  · exact absurd c (by rw [z_pl er eb, e]; exact nI_ge (by omega) (by omega))
  · omega
theorem m_wn {b : Int32} {w n a : Nat} (e : b = nI w) (hw : w < 2 ^ 31) (hn : n < 2 ^ 31) (h : a + n ≤ 48) (c : ¬ nI n < b) : a + w ≤ 48 := by
  rcases Nat.lt_or_ge n w with q | q
  · exact absurd (by rw [e]; exact nI_lt q hw) c
  · omega
