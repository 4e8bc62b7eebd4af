abbrev zQ : Type := Bool × Int32 × Int32 × Bool
def m_write (q : zQ) (wi : Bool) : Bool × zQ :=
  if q.2.1 = 0 then (false, false, q.2.1, q.2.2.1, q.2.2.2) else (true, q.1, if q.2.1 ≤ 0 then q.2.1 else q.2.1 - 1, q.2.2.1 + 1, if q.2.2.2 = false then (if wi = false then false else true) else true)
def m_writes (wi : Bool) : Nat → zQ → Bool × zQ
  | 0, q => (true, q)
  | k + 1, q => if (m_write q wi).1 = false then (false, (m_write q wi).2) else m_writes wi k (m_write q wi).2
def m_cnt (f : zA) (q : Int32) : Nat → Int32
  | 0 => 0
  | j + 1 => if f j = q then m_cnt f q j + 1 else m_cnt f q j
def m_many (ki : zA) (q : Int32) : Nat → Int32
  | 0 => 0
  | j + 1 => if ki (j + 1) = q then m_many ki q j + 1 else m_many ki q j
def m_runF (f : zA) : Nat → Int32
  | 0 => 0
  | j + 1 => if nI j = 0 then m_runF f j + 1 else if f j = f (j - 1) then m_runF f j else m_runF f j + 1
def m_begF (f : zA) (q : Int32) : Nat → Int32 → Int32
  | 0, x => x
  | j + 1, x => if f j = q then m_begF f q j (nI j) else m_begF f q j x
def m_permF (ki na : zA) (q : Int32) : Nat → Nat
  | 0 => 0
  | j + 1 => if ki (j + 1) = 2 then (if na (j + 1) = q then j + 1 else m_permF ki na q j) else m_permF ki na q j
def m_handF (ki ha : zA) (q : Int32) : Nat → Nat
  | 0 => 0
  | j + 1 => if ki (j + 1) = 1 then (if ha (j + 1) = q then j + 1 else m_handF ki ha q j) else m_handF ki ha q j
def m_perm (ki na : zA) (q : Int32) : Nat := m_permF ki na q 16
def m_hand (ki ha : zA) (q : Int32) : Nat := m_handF ki ha q 16
def m_rfF (ow : zA) (a : Nat) : Nat → Nat → Nat
  | 0, n => n
  | k + 1, n => if ow (a + n) = ow a then m_rfF ow a k (n + 1) else n
/-- how long the run is that begins at a -/
def m_rf (ow : zA) (a : Nat) : Nat := m_rfF ow a (48 - (a + 1)) 1
def m_cpF (f g : zA) (j : Nat) : zA := fun t => if t < j then g t else f t
/-- f, with the first 48 of g -/
def m_cp (f g : zA) : zA := m_cpF f g 48
def m_gvF (ow nx : zA) (q kp : Int32) (j : Nat) : zA := fun t => if t < j then (if ow t = q then (if m_cnt ow q t < kp then nx t else 0) else nx t) else nx t
def m_gv (ow nx : zA) (q kp : Int32) : zA := m_gvF ow nx q kp 48
def m_nw (nx : zA) : Int32 := (m_runF nx 48 + 3) / 4 + 1
def m_change (q : zQ) (wi : Bool) (ow nx : zA) : Bool × zQ × zA :=
  if (m_writes wi (m_nw nx).toNatClampNeg q).1 = false then (false, (m_writes wi (m_nw nx).toNatClampNeg q).2, ow) else (true, (m_writes wi (m_nw nx).toNatClampNeg q).2, m_cp ow nx)
theorem z_k_s {N j : Nat} {q x : Int32} (hq : q.toNatClampNeg = N) (hj : j ≤ N) (e : x = nI j) (c : ¬ q ≤ x) : j + 1 ≤ N := by
  subst hq
  exact z_c_g hj e c
theorem z_k_e {N j : Nat} {q x : Int32} (hq : q.toNatClampNeg = N) (hj : j ≤ N) (e : x = nI j) (c : q ≤ x) : j = N := by
  subst hq
  exact (z_c_eq hj e c).symm
theorem z48_s {j : Nat} {x : Int32} (hj : j ≤ 48) (e : x = nI j) (c : ¬ 48 ≤ x) : j + 1 ≤ 48 := z_k_s (N := 48) (q := 48) rfl hj e c
theorem z48_e {j : Nat} {x : Int32} (hj : j ≤ 48) (e : x = nI j) (c : 48 ≤ x) : j = 48 := z_k_e (N := 48) (q := 48) rfl hj e c
theorem z_ix {x : Int32} {j n : Nat} (e : x = nI j) (h : j + 1 ≤ n) (hn : n < 2 ^ 31) : vp_in x n := by
  rw [e]; exact vp_in_nI h hn
theorem z_ic {x : Int32} {j n : Nat} (e : x = nI j) (h : j + 1 ≤ n) (hn : n < 2 ^ 31) : x.toNatClampNeg = j := by
  rw [e]; exact nI_clamp (Nat.lt_of_lt_of_le h (Nat.le_of_lt hn))
theorem z_pr {x : Int32} {j : Nat} (e : x = nI j) (c : ¬ x = 0) : x - 1 = nI (j - 1) := by
  subst e
  cases j with
  | zero => exact absurd nI_0 c
  | succ i => exact nI_pred i
theorem z_prs {x : Int32} {j n : Nat} (e : x = nI j) (c : ¬ x = 0) (h : j + 1 ≤ n) : j - 1 + 1 ≤ n := by omega
theorem z_sx {x : Int32} {j : Nat} (e : x = nI j) : x + 1 = nI (j + 1) := by rw [e, nI_succ]
theorem z_down {x : Int32} {j : Nat} (hj : j < 2 ^ 31) (e : x = nI j - 1) (c : ¬ x < 0) : ∃ i, j = i + 1 ∧ x = nI i := by
  cases j with
  | zero => subst e; exact absurd (by rw [nI_0]; decide) c
  | succ i => exact ⟨i, rfl, by rw [e]; exact nI_pred i⟩
theorem z_down0 {x : Int32} {j : Nat} (hj : j < 2 ^ 31) (e : x = nI j - 1) (c : x < 0) : j = 0 := by
  cases j with
  | zero => rfl
  | succ i =>
    rw [nI_pred] at e
    subst e
    exact absurd c (nI_pos (by omega))
theorem m_cpF_0 (f g : zA) : m_cpF f g 0 = f := by funext t; simp [m_cpF]
theorem m_cpF_s {f g : zA} {j : Nat} : upd (m_cpF f g j) j (g j) = m_cpF f g (j + 1) := by
  funext t
  by_cases h1 : t = j
  · subst h1; simp [upd, m_cpF]
  · by_cases h2 : t < j
    · simp [upd, m_cpF, h1, h2, Nat.lt_succ_of_lt h2]
    · have h3 : ¬ t < j + 1 := by omega
      simp [upd, m_cpF, h1, h2, h3]
theorem m_gvF_0 (ow nx : zA) (q kp : Int32) : m_gvF ow nx q kp 0 = nx := by funext t; simp [m_gvF]
theorem m_gvF_at {ow nx : zA} {q kp : Int32} {j : Nat} : m_gvF ow nx q kp j j = nx j := by simp [m_gvF]
theorem m_gvF_s {ow nx : zA} {q kp v : Int32} {j : Nat} (h : v = if ow j = q then (if m_cnt ow q j < kp then nx j else 0) else nx j) : upd (m_gvF ow nx q kp j) j v = m_gvF ow nx q kp (j + 1) := by
  funext t
  by_cases h1 : t = j
  · subst h1; simp [upd, m_gvF, h]
  · by_cases h2 : t < j
    · simp [upd, m_gvF, h1, h2, Nat.lt_succ_of_lt h2]
    · have h3 : ¬ t < j + 1 := by omega
      simp [upd, m_gvF, h1, h2, h3]
theorem m_permF_lt (ki na : zA) (q : Int32) : ∀ j, m_permF ki na q j ≤ j
  | 0 => Nat.le_refl _
  | j + 1 => by
    have h := m_permF_lt ki na q j
    rw [m_permF]
    split
    · split <;> omega
    · omega
theorem m_handF_lt (ki ha : zA) (q : Int32) : ∀ j, m_handF ki ha q j ≤ j
  | 0 => Nat.le_refl _
  | j + 1 => by
    have h := m_handF_lt ki ha q j
    rw [m_handF]
    split
    · split <;> omega
    · omega
theorem m_rfF_le (ow : zA) (a : Nat) : ∀ k n, m_rfF ow a k n ≤ n + k
  | 0, n => Nat.le_refl _
  | k + 1, n => by
    rw [m_rfF]
    split
    · have := m_rfF_le ow a k (n + 1); omega
    · omega
theorem m_rfF_ge (ow : zA) (a : Nat) : ∀ k n, n ≤ m_rfF ow a k n
  | 0, n => Nat.le_refl _
  | k + 1, n => by
    rw [m_rfF]
    split
    · have := m_rfF_ge ow a k (n + 1); omega
    · omega
theorem m_rf_le {ow : zA} {a : Nat} (h : a < 48) : a + m_rf ow a ≤ 48 := by
  have := m_rfF_le ow a (48 - (a + 1)) 1
  rw [m_rf]; omega
theorem m_rf_pos (ow : zA) (a : Nat) : 1 ≤ m_rf ow a := m_rfF_ge ow a _ 1
theorem m_writes_s {N j : Nat} {wi : Bool} {q : zQ} {r : Bool × zQ} (er : m_writes wi (N - j) q = r) (h : j + 1 ≤ N) (c : (m_write q wi).1 = true) : m_writes wi (N - (j + 1)) (m_write q wi).2 = r := by
  rw [← er, show N - j = (N - (j + 1)) + 1 by omega, m_writes, if_neg (by rw [c]; decide)]
theorem m_writes_f {N j : Nat} {wi : Bool} {q : zQ} {r : Bool × zQ} (er : m_writes wi (N - j) q = r) (h : j + 1 ≤ N) (c : (m_write q wi).1 = false) : r = (false, (m_write q wi).2) := by
  rw [← er, show N - j = (N - (j + 1)) + 1 by omega, m_writes, if_pos c]
theorem m_writes_e {N j : Nat} {wi : Bool} {q : zQ} {r : Bool × zQ} (er : m_writes wi (N - j) q = r) (h : N = j) : r = (true, q) := by
  rw [← er, show N - j = 0 by omega, m_writes]
theorem z_f_s {j : Nat} {x : Int32} (hj : j ≤ 16) (e : x = nI (j + 1)) (c : ¬ 17 ≤ x) : j + 1 ≤ 16 := by
  have h := z_k_s (N := 17) (q := 17) rfl (by omega) e c
  omega
theorem z_f_17 {j : Nat} (h : j + 1 ≤ 16) : j + 1 + 1 ≤ 17 := by omega
theorem z_f_e {j : Nat} {x : Int32} (hj : j ≤ 16) (e : x = nI (j + 1)) (c : 17 ≤ x) : j = 16 := by
  have h := z_k_e (N := 17) (q := 17) rfl (by omega) e c
  omega
theorem z_pl {x y : Int32} {i j : Nat} (e1 : x = nI i) (e2 : y = nI j) : x + y = nI (i + j) := by
  subst e1 e2
  simp only [nI]
  exact (Int32.ofNat_add i j).symm
theorem m_rf_s {ow : zA} {a n r : Nat} (er : m_rfF ow a (48 - (a + n)) n = r) (h : a + n + 1 ≤ 48) (c : ow (a + n) = ow a) : m_rfF ow a (48 - (a + (n + 1))) (n + 1) = r := by
  rw [← er, show 48 - (a + n) = (48 - (a + (n + 1))) + 1 by omega, m_rfF, if_pos c]
theorem m_rf_f {ow : zA} {a n r : Nat} (er : m_rfF ow a (48 - (a + n)) n = r) (h : a + n + 1 ≤ 48) (c : ¬ ow (a + n) = ow a) : n = r := by
  rw [← er, show 48 - (a + n) = (48 - (a + (n + 1))) + 1 by omega, m_rfF, if_neg c]
theorem m_rf_e {ow : zA} {a n r : Nat} (er : m_rfF ow a (48 - (a + n)) n = r) (h : a + n = 48) : n = r := by
  rw [← er, show 48 - (a + n) = 0 by omega, m_rfF]
def m_nm (q : Int32) : Bool := if q < 1 then false else if 999 < q then false else true
