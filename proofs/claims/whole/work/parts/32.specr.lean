def m_segF (ow : zA) : Nat → Nat → List (Nat × Nat)
  | 0, _ => []
  | m + 1, x => if x < 48 then (x, m_rf ow x) :: m_segF ow m (x + m_rf ow x) else []
/-- the runs: where each begins, how long it is -/
def m_segs (ow : zA) : List (Nat × Nat) := m_segF ow 49 0
def m_fitS (ow : zA) (b : Int32) (t : Int32 × Int32) (s : Nat × Nat) : Int32 × Int32 :=
  if ow s.1 = 0 then (if nI s.2 < b then t else if t.2 ≤ nI s.2 then t else (nI s.1, nI s.2)) else t
def m_fit (ow : zA) (b ra : Int32) : Int32 × Int32 := (m_segs ow).foldl (m_fitS ow b) (ra, 99)
def m_fitR (ow : zA) (b ra : Int32) : Bool × Int32 × Int32 := (if 99 ≤ (m_fit ow b ra).2 then false else true, m_fit ow b ra)
def m_lonN (ow : zA) (s : Nat × Nat) : Int32 := if ow s.1 = 0 then nI s.2 else 0
def m_lonS (ow : zA) (t : Int32 × Int32) (s : Nat × Nat) : Int32 × Int32 :=
  (if m_lonN ow s ≤ t.1 then t.1 else m_lonN ow s, if m_lonN ow s ≤ t.1 then (if m_lonN ow s ≤ t.2 then t.2 else m_lonN ow s) else t.1)
def m_lonP (ow : zA) : Int32 × Int32 := (m_segs ow).foldl (m_lonS ow) (0, 0)
def m_lon (ow : zA) (z : Int32) : Int32 := if z = 0 then (m_lonP ow).1 else (m_lonP ow).2
def m_fmF (ow : zA) : List (Nat × Nat) → Int32 × Int32 × Int32 → Int32 × Int32 × Int32
  | [], t => t
  | s :: r, t => if t.1 = 0 then m_fmF ow r (if ow s.1 = 0 then (if 48 ≤ nI s.1 + nI s.2 then t else (ow (s.1 + s.2), nI s.1 + nI s.2, nI s.2)) else t) else t
def m_fm (ow : zA) (fr sh : Int32) : Int32 × Int32 × Int32 := m_fmF ow (m_segs ow) (0, fr, sh)
def m_fmR (ow : zA) (fr sh : Int32) : Bool × Int32 × Int32 × Int32 := (if (m_fm ow fr sh).1 ≤ 0 then false else true, m_fm ow fr sh)
def m_atF (ow : zA) : Nat → Nat
  | 0 => 0
  | i + 1 => if m_atF ow i < 48 then m_atF ow i + m_rf ow (m_atF ow i) else m_atF ow i
def m_at (ow : zA) (q : Int32) : Nat := m_atF ow q.toNatClampNeg
def m_runR (ow : zA) (q : Int32) : Bool × Int32 × Int32 := (if 48 ≤ nI (m_at ow q) then false else true, nI (m_at ow q), if 48 ≤ nI (m_at ow q) then 0 else nI (m_rf ow (m_at ow q)))
theorem m_seg_s {α : Type} {ow : zA} {k x : Nat} {f : α → Nat × Nat → α} {t r : α} (er : (m_segF ow (k + 1) x).foldl f t = r) (h : x + 1 ≤ 48) : (m_segF ow k (x + m_rf ow x)).foldl f (f t (x, m_rf ow x)) = r := by
  rw [← er, m_segF, if_pos (show x < 48 from h)]; rfl
theorem m_seg_e {α : Type} {ow : zA} {k x : Nat} {f : α → Nat × Nat → α} {t r : α} (er : (m_segF ow (k + 1) x).foldl f t = r) (h : x = 48) : r = t := by
  rw [← er, m_segF, if_neg (by omega)]; rfl
theorem m_fm_s {ow : zA} {k x : Nat} {t r : Int32 × Int32 × Int32} (er : m_fmF ow (m_segF ow (k + 1) x) t = r) (h : x + 1 ≤ 48) (c : t.1 = 0) :
    m_fmF ow (m_segF ow k (x + m_rf ow x)) (if ow x = 0 then (if 48 ≤ nI x + nI (m_rf ow x) then t else (ow (x + m_rf ow x), nI x + nI (m_rf ow x), nI (m_rf ow x))) else t) = r := by
  rw [← er, m_segF, if_pos (show x < 48 from h), m_fmF, if_pos c]
theorem m_fm_e {ow : zA} {k x : Nat} {t r : Int32 × Int32 × Int32} (er : m_fmF ow (m_segF ow (k + 1) x) t = r) (h : x = 48) : r = t := by
  rw [← er, m_segF, if_neg (by omega), m_fmF]
theorem m_fm_x {ow : zA} {k x : Nat} {t r : Int32 × Int32 × Int32} (er : m_fmF ow (m_segF ow (k + 1) x) t = r) (h : x + 1 ≤ 48) (c : ¬ t.1 = 0) : r = t := by
  rw [← er, m_segF, if_pos (show x < 48 from h), m_fmF, if_neg c]
theorem m_at_le (ow : zA) : ∀ i, m_atF ow i ≤ 48
  | 0 => by rw [m_atF]; omega
  | i + 1 => by
    rw [m_atF]
    split
    · rename_i h; exact m_rf_le h
    · exact m_at_le ow i
theorem m_at_st {ow : zA} {i : Nat} (h : 48 ≤ m_atF ow i) : ∀ d, m_atF ow (i + d) = m_atF ow i
  | 0 => rfl
  | d + 1 => by
    have e := m_at_st h d
    rw [show i + (d + 1) = (i + d) + 1 from rfl, m_atF, e, if_neg (by omega)]
theorem m_at_x {ow : zA} {q x : Int32} {j : Nat} (hj : j ≤ q.toNatClampNeg) (e : x = nI (m_atF ow j)) (c : 48 ≤ x) : m_at ow q = m_atF ow j := by
  have h1 := m_at_le ow j
  have h2 : m_atF ow j = 48 := z_k_e (q := 48) rfl h1 e c
  have h3 := m_at_st (ow := ow) (i := j) (by omega) (q.toNatClampNeg - j)
  rw [m_at, show q.toNatClampNeg = j + (q.toNatClampNeg - j) by omega, h3]
theorem m_at_s {ow : zA} {j : Nat} (h : m_atF ow j + 1 ≤ 48) : m_atF ow (j + 1) = m_atF ow j + m_rf ow (m_atF ow j) := by
  rw [m_atF, if_pos (show m_atF ow j < 48 from h)]
