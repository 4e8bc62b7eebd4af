abbrev zG : Type := zQ × Bool × Int32 × zA × Int32 × zA × zA × Int32 × Int32 × Int32
abbrev m_tF (t : zG) : Bool × Int32 × Int32 × Int32 := m_fmR t.2.2.2.2.2.1 t.2.2.2.2.2.2.2.2.1 t.2.2.2.2.2.2.2.2.2
abbrev m_mv0 (wi : Bool) (t : zG) (F : Int32 × Int32 × Int32) (g : Nat) (told : Int32) : zM8 :=
  m_move t.1 wi t.2.1 t.2.2.1 t.2.2.2.1 t.2.2.2.2.1 t.2.2.2.2.2.1 t.2.2.2.2.2.2.1 F.1 F.2.1.toNatClampNeg F.2.2.toNatClampNeg (m_cnt t.2.2.2.2.2.1 F.1 48).toNatClampNeg g told
abbrev m_pk (M : zM8) (F : Int32 × Int32 × Int32) : zG := (M.2.1, M.2.2.1, M.2.2.2.1, M.2.2.2.2.1, M.2.2.2.2.2.1, M.2.2.2.2.2.2.1, M.2.2.2.2.2.2.2, F)
/-- what a move needs -/
def m_mok (ow : zA) (F : Int32 × Int32 × Int32) (g : Nat) : Prop := F.2.1 = nI F.2.1.toNatClampNeg ∧ F.2.2 = nI F.2.2.toNatClampNeg ∧ 1 ≤ F.2.2.toNatClampNeg ∧ F.2.2.toNatClampNeg ≤ F.2.1.toNatClampNeg ∧
  m_cnt ow F.1 48 = nI (m_cnt ow F.1 48).toNatClampNeg ∧ F.2.1.toNatClampNeg + (m_cnt ow F.1 48).toNatClampNeg ≤ 48 ∧ g ≤ (m_cnt ow F.1 48).toNatClampNeg
def m_maF (wi : Bool) : Nat → zG → Bool × zG
  | 0, t => (true, t)
  | n + 1, t => if (m_tF t).1 = false then (true, t.1, t.2.1, t.2.2.1, t.2.2.2.1, t.2.2.2.2.1, t.2.2.2.2.2.1, t.2.2.2.2.2.2.1, (m_tF t).2) else
      if (m_mv0 wi t (m_tF t).2 0 0).1 = false then (false, m_pk (m_mv0 wi t (m_tF t).2 0 0) (m_tF t).2) else m_maF wi n (m_pk (m_mv0 wi t (m_tF t).2 0 0) (m_tF t).2)
def m_maOK (wi : Bool) : Nat → zG → Prop
  | 0, _ => False
  | n + 1, t => (m_tF t).1 = true → (m_mok t.2.2.2.2.2.1 (m_tF t).2 0 ∧ ((m_mv0 wi t (m_tF t).2 0 0).1 = true → m_maOK wi n (m_pk (m_mv0 wi t (m_tF t).2 0 0) (m_tF t).2)))
def m_sqf (q : zQ) (b : Bool) : zQ := (q.1, q.2.1, q.2.2.1, b)
def m_pow (q : zQ) : zQ := (true, -1, q.2.2)
abbrev m_cp0 (t : zG) : zG := (t.1, t.2.1, t.2.2.1, t.2.2.2.1, 0, t.2.2.2.2.2)
abbrev m_sqA (A : Bool × zG) : Int32 × Int32 × zG := (if A.1 = false then -1 else A.2.2.2.2.2.1, 0, m_sqf A.2.1 (if A.2.1.2.2.2 = false then false else if A.1 = false then true else false), A.2.2)
def m_squeeze (t : zG) (ki : zA) : Int32 × Int32 × zG :=
  if t.1.1 = false then (0, 1, t) else if m_many ki 1 16 ≤ 0 then m_sqA (m_maF true 17 (m_cp0 t)) else (0, 1, t)
/-- all tentative files' blocks are given up -/
def m_gaF (ow ki nx : zA) : Nat → zA
  | 0 => nx
  | j + 1 => if ki (j + 1) = 1 then m_gv ow (m_gaF ow ki nx j) (nI (j + 1)) 0 else m_gaF ow ki nx j
def m_kcF (ki : zA) (j : Nat) : zA := fun t => if 1 ≤ t ∧ t < 1 + j then (if ki t = 1 then 0 else ki t) else ki t
abbrev m_nx4 (t : zG) (ki : zA) : zA := m_gaF t.2.2.2.2.2.1 ki (m_cp t.2.2.2.2.2.2.1 t.2.2.2.2.2.1) 16
abbrev m_ch4 (wi : Bool) (t : zG) (ki : zA) : Bool × zQ × zA := m_change t.1 wi t.2.2.2.2.2.1 (m_nx4 t ki)
def m_mt4 (wi : Bool) (t : zG) (ki : zA) : Int32 × Int32 × zA × zG :=
  if m_many ki 1 16 ≤ 0 then (m_many ki 2 16, 0, ki, t) else
    (m_many (m_kcF ki 16) 2 16, 0, m_kcF ki 16, (m_ch4 wi t ki).2.1, t.2.1, t.2.2.1, t.2.2.2.1, t.2.2.2.2.1, (m_ch4 wi t ki).2.2, m_nx4 t ki, t.2.2.2.2.2.2.2)
abbrev m_mt1 (t : zG) : zG := (m_pow t.1, t.2)
def m_mt2 (wi : Bool) (t : zG) : zG := if t.2.1 = false then t else m_pk (m_mv0 wi t t.2.2.2.2.2.2.2 t.2.2.1.toNatClampNeg 1) t.2.2.2.2.2.2.2
def m_mt3 (wi : Bool) (t : zG) : zG := if t.1.2.2.2 = false then t else (m_maF wi 17 t).2
abbrev m_sq0 (t : zG) : zG := (m_sqf t.1 false, t.2)
def m_mount (wi : Bool) (t : zG) (ki : zA) : Int32 × Int32 × zA × zG := if t.1.1 = false then m_mt4 wi (m_sq0 (m_mt3 wi (m_mt2 wi (m_mt1 t)))) ki else (0, 1, ki, t)
section MMA
variable {wi : Bool} {k : Nat} {t : zG} {R : Bool × zG} {F : Bool × Int32 × Int32 × Int32} {M : zM8}
theorem m_ma_s (er : m_maF wi (k + 1) t = R) (hF : m_tF t = F) (hM : m_mv0 wi t F.2 0 0 = M) (c1 : F.1 = true) (c2 : M.1 = true) :
    m_maF wi k (M.2.1, M.2.2.1, M.2.2.2.1, M.2.2.2.2.1, M.2.2.2.2.2.1, M.2.2.2.2.2.2.1, M.2.2.2.2.2.2.2, F.2.1, F.2.2.1, F.2.2.2) = R := by
  rw [← er, m_maF, hF, if_neg (by rw [c1]; simp), hM, if_neg (by rw [c2]; simp)]
theorem m_ma_f (er : m_maF wi (k + 1) t = R) (hF : m_tF t = F) (hM : m_mv0 wi t F.2 0 0 = M) (c1 : F.1 = true) (c2 : M.1 = false) :
    R = (false, M.2.1, M.2.2.1, M.2.2.2.1, M.2.2.2.2.1, M.2.2.2.2.2.1, M.2.2.2.2.2.2.1, M.2.2.2.2.2.2.2, F.2.1, F.2.2.1, F.2.2.2) := by
  rw [← er, m_maF, hF, if_neg (by rw [c1]; simp), hM, if_pos c2]
theorem m_ma_e (er : m_maF wi (k + 1) t = R) (hF : m_tF t = F) (c1 : F.1 = false) :
    R = (true, t.1, t.2.1, t.2.2.1, t.2.2.2.1, t.2.2.2.2.1, t.2.2.2.2.2.1, t.2.2.2.2.2.2.1, F.2.1, F.2.2.1, F.2.2.2) := by
  rw [← er, m_maF, hF, if_pos c1]
theorem m_maOK_s (hok : m_maOK wi (k + 1) t) (hF : m_tF t = F) (hM : m_mv0 wi t F.2 0 0 = M) (c1 : F.1 = true) (c2 : M.1 = true) :
    m_maOK wi k (M.2.1, M.2.2.1, M.2.2.2.1, M.2.2.2.2.1, M.2.2.2.2.2.1, M.2.2.2.2.2.2.1, M.2.2.2.2.2.2.2, F.2.1, F.2.2.1, F.2.2.2) := by
  have h1 := (hok (by rw [hF]; exact c1)).2
  rw [hF, hM] at h1
  exact h1 c2
end MMA
theorem m_mt2_s {wi : Bool} {t : zG} {M : zM8} (h : t.2.1 = true) (hM : m_mv0 wi t t.2.2.2.2.2.2.2 t.2.2.1.toNatClampNeg 1 = M) : m_mt2 wi t = (M.2.1, M.2.2.1, M.2.2.2.1, M.2.2.2.2.1, M.2.2.2.2.2.1, M.2.2.2.2.2.2.1, M.2.2.2.2.2.2.2, t.2.2.2.2.2.2.2) := by
  rw [m_mt2, if_neg (by rw [h]; simp), hM]
theorem m_mt2_n {wi : Bool} {t : zG} (h : t.2.1 = false) : m_mt2 wi t = t := by rw [m_mt2, if_pos h]
theorem m_mt3_s {wi : Bool} {t : zG} {A : Bool × zG} (h : t.1.2.2.2 = true) (hA : m_maF wi 17 t = A) : m_mt3 wi t = (A.2.1, A.2.2.1, A.2.2.2.1, A.2.2.2.2.1, A.2.2.2.2.2.1, A.2.2.2.2.2.2.1, A.2.2.2.2.2.2.2.1, A.2.2.2.2.2.2.2.2.1, A.2.2.2.2.2.2.2.2.2.1, A.2.2.2.2.2.2.2.2.2.2) := by
  rw [m_mt3, if_neg (by rw [h]; simp), hA]
theorem m_mt3_n {wi : Bool} {t : zG} (h : t.1.2.2.2 = false) : m_mt3 wi t = t := by rw [m_mt3, if_pos h]
theorem m_kcF_0 (ki : zA) : m_kcF ki 0 = ki := by
  funext t
  have h : ¬ (1 ≤ t ∧ t < 1 + 0) := by omega
  rw [m_kcF, if_neg h]
theorem m_kcF_at {ki : zA} {j : Nat} : m_kcF ki j (j + 1) = ki (j + 1) := by
  have h : ¬ (1 ≤ j + 1 ∧ j + 1 < 1 + j) := by omega
  rw [m_kcF, if_neg h]
theorem m_kcF_s {ki : zA} {j : Nat} {v : Int32} (hv : v = if ki (j + 1) = 1 then 0 else ki (j + 1)) : upd (m_kcF ki j) (j + 1) v = m_kcF ki (j + 1) := by
  funext t
  by_cases h1 : t = j + 1
  · subst h1; simp [upd, m_kcF, hv]
  · by_cases h2 : 1 ≤ t ∧ t < 1 + j
    · have h3 : 1 ≤ t ∧ t < 1 + (j + 1) := by omega
      simp [upd, m_kcF, h1, h2, h3]
    · have h3 : ¬ (1 ≤ t ∧ t < 1 + (j + 1)) := by omega
      simp [upd, m_kcF, h1, h2, h3]
