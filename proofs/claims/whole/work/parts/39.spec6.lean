def m_mo (b : Nat) : Nat := if 8 ≤ b then 8 else b
abbrev zI : Type := zQ × zA × Int32
/-- n blocks are copied, the first one the k-th of the file -/
def m_mvI (wi : Bool) (a b : Nat) : Nat → Nat → zI → Bool × zI
  | 0, _, t => (true, t)
  | n + 1, k, t => if (m_write t.1 wi).1 = false then (false, (m_write t.1 wi).2, t.2) else m_mvI wi a b n (k + 1) ((m_write t.1 wi).2, upd t.2.1 (a + k - b) (t.2.1 (a + k)), t.2.2 + 1)
abbrev zO : Type := zQ × Bool × Int32 × zA × Int32
abbrev m_mvE (len mo p : Nat) : Nat := min (p + mo) len
def m_mvB (wi : Bool) (a b n p : Nat) (t : zO) (K : zO → Bool × zO) : Bool × zO :=
  if (m_mvI wi a b n p (t.1, t.2.2.2)).1 = false then (false, (m_mvI wi a b n p (t.1, t.2.2.2)).2.1, t.2.1, t.2.2.1, (m_mvI wi a b n p (t.1, t.2.2.2)).2.2) else
    K ((m_mvI wi a b n p (t.1, t.2.2.2)).2.1, t.2.1, t.2.2.1, (m_mvI wi a b n p (t.1, t.2.2.2)).2.2)
def m_mvO (wi : Bool) (a b len mo g : Nat) (told : Int32) : Nat → Nat → zO → Bool × zO
  | 0, _, t => (true, t)
  | n + 1, p, t => if len ≤ p then (true, t) else
      if g < p ∨ told = 0 then (if (m_write t.1 wi).1 = false then (false, (m_write t.1 wi).2, t.2) else m_mvB wi a b (m_mvE len mo p - p) p ((m_write t.1 wi).2, true, nI p, t.2.2.2) (m_mvO wi a b len mo g told n (p + mo)))
      else m_mvB wi a b (m_mvE len mo p - p) p t (m_mvO wi a b len mo g told n (p + mo))
def m_mvXF (f : zA) (st len : Nat) (v : Int32) (j : Nat) : zA := fun t => if st ≤ t ∧ t < st + j then (if t < st + len then v else 0) else f t
abbrev zM8 : Type := Bool × zQ × Bool × Int32 × zA × Int32 × zA × zA
abbrev m_mvZ (wi : Bool) (t : zO) (ow nx : zA) : zM8 :=
  if (m_change t.1 wi ow nx).1 = false then (false, (m_change t.1 wi ow nx).2.1, t.2.1, t.2.2.1, t.2.2.2.1, t.2.2.2.2, (m_change t.1 wi ow nx).2.2, nx) else
    (true, (m_change t.1 wi ow nx).2.1, false, t.2.2.1, t.2.2.2.1, t.2.2.2.2, (m_change t.1 wi ow nx).2.2, nx)
abbrev m_mvY (wi : Bool) (r : Bool × zO) (ow nx : zA) (mv : Int32) (a b len : Nat) : zM8 :=
  if r.1 = false then (false, r.2.1, r.2.2.1, r.2.2.2.1, r.2.2.2.2.1, r.2.2.2.2.2, ow, nx) else m_mvZ wi r.2 ow (m_mvXF (m_cp nx ow) (a - b) len mv (b + len))
/-- the file mv, that begins at a, moves b down, from its block g on: false when power fails -/
def m_move (qq : zQ) (wi mo : Bool) (gr : Int32) (ints : zA) (cp : Int32) (ow nx : zA) (mv : Int32) (a b len g : Nat) (told : Int32) : zM8 :=
  m_mvY wi (m_mvO wi a b len (m_mo b) g told 60 g (qq, mo, gr, ints, cp)) ow nx mv a b len
theorem m_mo_1 {sh : Int32} {b : Nat} (hb : b < 2 ^ 31) (e : sh = nI b) (c : 8 ≤ sh) : (8 : Int32) = nI (m_mo b) := by
  have h : 8 ≤ b := by
    rcases Nat.lt_or_ge b 8 with q | q
    · exact absurd c (by rw [e]; exact nI_ge (b := 8) q (by omega))
    · exact q
  rw [m_mo, if_pos h]; rfl
theorem m_mo_2 {sh : Int32} {b : Nat} (hb : b < 2 ^ 31) (e : sh = nI b) (c : ¬ 8 ≤ sh) : sh = nI (m_mo b) := by
  have h : ¬ 8 ≤ b := fun q => c (by rw [e]; exact nI_le (a := 8) q hb)
  rw [m_mo, if_neg h, e]
theorem m_mo_p {b : Nat} (h : 1 ≤ b) : 1 ≤ m_mo b ∧ m_mo b ≤ 8 := by
  unfold m_mo
  split <;> omega
theorem z_nle {x y : Int32} {i j : Nat} (e1 : x = nI i) (e2 : y = nI j) (hj : j < 2 ^ 31) (c : ¬ x ≤ y) : j + 1 ≤ i := by
  rcases Nat.lt_or_ge j i with q | q
  · exact q
  · exact absurd (by rw [e1, e2]; exact nI_le q hj) c
theorem z_le {x y : Int32} {i j : Nat} (e1 : x = nI i) (e2 : y = nI j) (hi : i < 2 ^ 31) (c : x ≤ y) : i ≤ j := by
  rcases Nat.lt_or_ge j i with q | q
  · exact absurd c (by rw [e1, e2]; exact nI_ge q hi)
  · exact q
theorem z_lt' {x y : Int32} {i j : Nat} (e1 : x = nI i) (e2 : y = nI j) (hi : i < 2 ^ 31) (c : x < y) : i < j := by
  rcases Nat.lt_or_ge i j with q | q
  · exact q
  · exact absurd c (by rw [e1, e2]; exact nI_nlt q hi)
theorem z_nlt' {x y : Int32} {i j : Nat} (e1 : x = nI i) (e2 : y = nI j) (hj : j < 2 ^ 31) (c : ¬ x < y) : j ≤ i := by
  rcases Nat.lt_or_ge i j with q | q
  · exact absurd (by rw [e1, e2]; exact nI_lt q hj) c
  · exact q
theorem z_mi {x y : Int32} {i j : Nat} (e1 : x = nI i) (e2 : y = nI j) (h : j ≤ i) : x - y = nI (i - j) := by
  have h1 : nI i = nI (i - j) + nI j := by
    have h2 := z_pl (x := nI (i - j)) (y := nI j) rfl rfl
    rw [h2]; congr 1; omega
  rw [e1, e2, h1, Int32.add_sub_cancel]
theorem m_mvI_s {wi : Bool} {a b E k : Nat} {t : zI} {r : Bool × zI} (er : m_mvI wi a b (E - k) k t = r) (h : k + 1 ≤ E) (c : (m_write t.1 wi).1 = true) : m_mvI wi a b (E - (k + 1)) (k + 1) ((m_write t.1 wi).2, upd t.2.1 (a + k - b) (t.2.1 (a + k)), t.2.2 + 1) = r := by
  rw [← er, show E - k = (E - (k + 1)) + 1 by omega, m_mvI, if_neg (by rw [c]; simp)]
theorem m_mvI_f {wi : Bool} {a b E k : Nat} {t : zI} {r : Bool × zI} (er : m_mvI wi a b (E - k) k t = r) (h : k + 1 ≤ E) (c : (m_write t.1 wi).1 = false) : r = (false, (m_write t.1 wi).2, t.2) := by
  rw [← er, show E - k = (E - (k + 1)) + 1 by omega, m_mvI, if_pos c]
theorem m_mvI_e {wi : Bool} {a b E k : Nat} {t : zI} {r : Bool × zI} (er : m_mvI wi a b (E - k) k t = r) (h : k = E) : r = (true, t) := by
  rw [← er, show E - k = 0 by omega, m_mvI]
section MVO
variable {wi : Bool} {a b len mo g n p : Nat} {told : Int32} {t : zO} {r : Bool × zO} {r9 : Bool × zI}
theorem m_mvO_e (er : m_mvO wi a b len mo g told (n + 1) p t = r) (h : len ≤ p) : r = (true, t) := by
  rw [← er, m_mvO, if_pos h]
theorem m_mvO_lf (er : m_mvO wi a b len mo g told (n + 1) p t = r) (h : ¬ len ≤ p) (c : g < p ∨ told = 0) (w : (m_write t.1 wi).1 = false) : r = (false, (m_write t.1 wi).2, t.2) := by
  rw [← er, m_mvO, if_neg h, if_pos c, if_pos w]
theorem m_mvO_ls (er : m_mvO wi a b len mo g told (n + 1) p t = r) (h : ¬ len ≤ p) (c : g < p ∨ told = 0) (w : (m_write t.1 wi).1 = true) :
    m_mvB wi a b (m_mvE len mo p - p) p ((m_write t.1 wi).2, true, nI p, t.2.2.2) (m_mvO wi a b len mo g told n (p + mo)) = r := by
  rw [← er, m_mvO, if_neg h, if_pos c, if_neg (by rw [w]; simp)]
theorem m_mvO_sk (er : m_mvO wi a b len mo g told (n + 1) p t = r) (h : ¬ len ≤ p) (c : ¬ (g < p ∨ told = 0)) :
    m_mvB wi a b (m_mvE len mo p - p) p t (m_mvO wi a b len mo g told n (p + mo)) = r := by
  rw [← er, m_mvO, if_neg h, if_neg c]
theorem m_mvB_s {n9 : Nat} {K : zO → Bool × zO} (er : m_mvB wi a b n9 p t K = r) (e : m_mvI wi a b n9 p (t.1, t.2.2.2) = r9) (h : r9.1 = true) : K (r9.2.1, t.2.1, t.2.2.1, r9.2.2) = r := by
  rw [← er, m_mvB, e, if_neg (by rw [h]; simp)]
theorem m_mvB_f {n9 : Nat} {K : zO → Bool × zO} (er : m_mvB wi a b n9 p t K = r) (e : m_mvI wi a b n9 p (t.1, t.2.2.2) = r9) (h : r9.1 = false) : r = (false, r9.2.1, t.2.1, t.2.2.1, r9.2.2) := by
  rw [← er, m_mvB, e, if_pos h]
end MVO
theorem m_mvXF_0 (f : zA) (st len : Nat) (v : Int32) : m_mvXF f st len v 0 = f := by
  funext t
  have h : ¬ (st ≤ t ∧ t < st + 0) := by omega
  rw [m_mvXF, if_neg h]
theorem m_mvXF_s {f : zA} {st len j : Nat} {v x : Int32} (hx : x = if st + j < st + len then v else 0) : upd (m_mvXF f st len v j) (st + j) x = m_mvXF f st len v (j + 1) := by
  funext t
  by_cases h1 : t = st + j
  · subst h1; simp [upd, m_mvXF, hx]
  · by_cases h2 : st ≤ t ∧ t < st + j
    · have h3 : st ≤ t ∧ t < st + (j + 1) := by omega
      simp [upd, m_mvXF, h1, h2, h3]
    · have h3 : ¬ (st ≤ t ∧ t < st + (j + 1)) := by omega
      simp [upd, m_mvXF, h1, h2, h3]
