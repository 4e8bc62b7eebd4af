def m_put (qq : zQ) (wi : Bool) (ints ow ki ha : zA) (h b v : Int32) : Int32 × Int32 × zQ × zA :=
  if qq.1 = false then (0, 1, qq, ints) else if nI (m_hand ki ha h) = 0 then (0, 2, qq, ints) else if b < 0 then (0, 3, qq, ints) else if b < m_cnt ow (nI (m_hand ki ha h)) 48 then
    (if (m_write qq wi).1 = false then (-1, 0, (m_write qq wi).2, ints) else (0, 0, (m_write qq wi).2, upd ints (m_begF ow (nI (m_hand ki ha h)) 48 (-1) + b).toNatClampNeg v))
  else (0, 3, qq, ints)
def m_read (qq : zQ) (ints ow ki na : zA) (q b : Int32) : Int32 × Int32 :=
  if qq.1 = false then (0, 1) else if nI (m_perm ki na q) = 0 then (0, 2) else if b < 0 then (0, 3) else if b < m_cnt ow (nI (m_perm ki na q)) 48 then
    (ints (m_begF ow (nI (m_perm ki na q)) 48 (-1) + b).toNatClampNeg, 0) else (0, 3)
abbrev m_vnx (ow nx : zA) (q : Int32) : zA := m_gv ow (m_cp nx ow) q 0
def m_van (qq : zQ) (wi : Bool) (ow nx ki : zA) (q : Int32) (f : Nat) : Int32 × zQ × zA × zA × zA :=
  if (m_change qq wi ow (m_vnx ow nx q)).1 = false then (-1, (m_change qq wi ow (m_vnx ow nx q)).2.1, (m_change qq wi ow (m_vnx ow nx q)).2.2, m_vnx ow nx q, ki) else
    (m_cnt ow q 48, (m_change qq wi ow (m_vnx ow nx q)).2.1, (m_change qq wi ow (m_vnx ow nx q)).2.2, m_vnx ow nx q, upd ki f 0)
def m_purge (qq : zQ) (wi : Bool) (ow nx ki ha : zA) (h : Int32) : Int32 × Int32 × zQ × zA × zA × zA :=
  if qq.1 = false then (0, 1, qq, ow, nx, ki) else if nI (m_hand ki ha h) = 0 then (0, 2, qq, ow, nx, ki) else
    ((m_van qq wi ow nx ki (nI (m_hand ki ha h)) (m_hand ki ha h)).1, 0, (m_van qq wi ow nx ki (nI (m_hand ki ha h)) (m_hand ki ha h)).2)
def m_delete (qq : zQ) (wi : Bool) (ow nx ki na : zA) (q : Int32) : Int32 × Int32 × zQ × zA × zA × zA :=
  if qq.1 = false then (0, 1, qq, ow, nx, ki) else if nI (m_perm ki na q) = 0 then (0, 2, qq, ow, nx, ki) else
    ((m_van qq wi ow nx ki (nI (m_perm ki na q)) (m_perm ki na q)).1, 0, (m_van qq wi ow nx ki (nI (m_perm ki na q)) (m_perm ki na q)).2)
def m_rename (qq : zQ) (wi : Bool) (ow nx ki na : zA) (q to : Int32) : Int32 × Int32 × zQ × zA × zA × zA :=
  if qq.1 = false then (0, 1, qq, ow, nx, na) else if m_nm to = false then (0, 2, qq, ow, nx, na) else if nI (m_perm ki na q) = 0 then (0, 3, qq, ow, nx, na) else if nI (m_perm ki na to) ≤ 0 then
    (if (m_change qq wi ow (m_cp nx ow)).1 = false then (-1, 0, (m_change qq wi ow (m_cp nx ow)).2.1, (m_change qq wi ow (m_cp nx ow)).2.2, m_cp nx ow, na) else
      (0, 0, (m_change qq wi ow (m_cp nx ow)).2.1, (m_change qq wi ow (m_cp nx ow)).2.2, m_cp nx ow, upd na (m_perm ki na q) to))
  else (0, 4, qq, ow, nx, na)
abbrev m_clo2 (qq : zQ) (wi : Bool) (ow nx ki ki2 : zA) (more : Int32) : Int32 × Int32 × zQ × zA × zA × zA :=
  if m_runF nx 48 ≤ 16 then (if (m_change qq wi ow nx).1 = false then (-1, 0, (m_change qq wi ow nx).2.1, (m_change qq wi ow nx).2.2, nx, ki) else (more, 0, (m_change qq wi ow nx).2.1, (m_change qq wi ow nx).2.2, nx, ki2)) else (0, 4, qq, ow, nx, ki)
abbrev m_clo1 (qq : zQ) (wi : Bool) (ow nx ki : zA) (f old : Nat) (u : Int32) : Int32 × Int32 × zQ × zA × zA × zA :=
  if nI old ≤ 0 then m_clo2 qq wi ow (m_gv ow (m_cp nx ow) (nI f) u) ki (upd ki f 2) (m_cnt ow (nI f) 48 - u) else
    m_clo2 qq wi ow (m_gv ow (m_gv ow (m_cp nx ow) (nI f) u) (nI old) 0) ki (upd (upd ki old 0) f 2) (m_cnt ow (nI f) 48 - u + m_cnt ow (nI old) 48)
def m_close (qq : zQ) (wi : Bool) (ow nx ki na ha : zA) (h u : Int32) : Int32 × Int32 × zQ × zA × zA × zA :=
  if qq.1 = false then (0, 1, qq, ow, nx, ki) else if nI (m_hand ki ha h) = 0 then (0, 2, qq, ow, nx, ki) else if u < 1 then (0, 3, qq, ow, nx, ki) else if u ≤ m_cnt ow (nI (m_hand ki ha h)) 48 then
    m_clo1 qq wi ow nx ki (m_hand ki ha h) (m_perm ki na (na (m_hand ki ha h))) u
  else (0, 3, qq, ow, nx, ki)
def m_cut (qq : zQ) (n : Int32) : Int32 × zQ := if qq.1 = false then (1, qq) else if -1 ≤ n then (0, qq.1, n, qq.2.2) else (2, qq)
def m_entries (qq : zQ) (ow : zA) : Int32 × Int32 := if qq.1 = false then (0, 1) else (m_runF ow 48, 0)
def m_free (qq : zQ) (ow : zA) (z : Int32) : Int32 × Int32 := if qq.1 = false then (0, 1) else if z = 0 then (m_cnt ow 0 48, 0) else (m_lon ow 0, 0)
def m_hdF (ki na ha : zA) (q : Int32) : Nat → Int32 → Int32
  | 0, x => x
  | j + 1, x => if nI (m_hand ki ha (nI j)) ≤ 0 then m_hdF ki na ha q j x else if na (m_hand ki ha (nI j)) = q then m_hdF ki na ha q j (nI j) else m_hdF ki na ha q j x
def m_handle (qq : zQ) (ki na ha : zA) (q : Int32) : Int32 × Int32 := if qq.1 = false then (-1, 1) else (m_hdF ki na ha q 4 (-1), 0)
def m_entry (qq : zQ) (ow ki na : zA) (ra rl k a : Int32) : Int32 × Int32 × Int32 × Int32 :=
  if qq.1 = false then (0, 1, ra, rl) else if a < 0 then (0, 2, ra, rl) else if a ≤ 3 then (if k < 0 then (0, 3, ra, rl) else if 48 < k then (0, 3, ra, rl) else if (m_runR ow k).1 = false then (0, 3, (m_runR ow k).2) else
    if a = 0 then (if ow (m_at ow k) = 0 then (0, 0, (m_runR ow k).2) else (ki (ow (m_at ow k)).toNatClampNeg, 0, (m_runR ow k).2)) else if a = 1 then ((m_runR ow k).2.1, 0, (m_runR ow k).2) else if a = 2 then ((m_runR ow k).2.2, 0, (m_runR ow k).2) else
      (if ow (m_at ow k) = 0 then (0, 0, (m_runR ow k).2) else (na (ow (m_at ow k)).toNatClampNeg, 0, (m_runR ow k).2))) else (0, 2, ra, rl)
theorem m_cnt_nat (f : zA) (q : Int32) : ∀ j, j ≤ 48 → ∃ n, m_cnt f q j = nI n ∧ n ≤ j
  | 0, _ => ⟨0, rfl, Nat.le_refl _⟩
  | j + 1, h => by
    obtain ⟨n, e, hn⟩ := m_cnt_nat f q j (by omega)
    rw [m_cnt]
    split
    · exact ⟨n + 1, by rw [e, nI_succ], by omega⟩
    · exact ⟨n, e, by omega⟩
theorem m_beg_at (f : zA) (q : Int32) : ∀ (j : Nat) (x : Int32), j ≤ 48 → (m_cnt f q j = 0 ∧ m_begF f q j x = x) ∨ ∃ b n, m_begF f q j x = nI b ∧ m_cnt f q j = nI n ∧ b + n ≤ j
  | 0, x, _ => Or.inl ⟨rfl, rfl⟩
  | j + 1, x, h => by
    rw [m_cnt, m_begF]
    split
    · rcases m_beg_at f q j (nI j) (by omega) with ⟨h1, h2⟩ | ⟨b, n, h1, h2, h3⟩
      · exact Or.inr ⟨j, 1, h2, by rw [h1]; rfl, by omega⟩
      · exact Or.inr ⟨b, n + 1, h1, by rw [h2, nI_succ], by omega⟩
    · rcases m_beg_at f q j x (by omega) with ⟨h1, h2⟩ | ⟨b, n, h1, h2, h3⟩
      · exact Or.inl ⟨h1, h2⟩
      · exact Or.inr ⟨b, n, h1, h2, by omega⟩
theorem z_lt_nat {b : Int32} {n : Nat} (hn : n < 2 ^ 31) (h0 : ¬ b < 0) (h1 : b < nI n) : ∃ i, b = nI i ∧ i < n := by
  rw [Int32.lt_iff_toInt_lt, nI_toInt hn] at h1
  rw [Int32.lt_iff_toInt_lt] at h0
  have h3 : (0 : Int32).toInt = 0 := rfl
  rw [h3] at h0
  refine ⟨b.toInt.toNat, ?_, by omega⟩
  apply Int32.toInt_inj.mp
  rw [nI_toInt (by omega)]
  omega
theorem m_beg_in {f : zA} {q b : Int32} (h0 : ¬ b < 0) (h1 : b < m_cnt f q 48) : vp_in (m_begF f q 48 (-1) + b) 48 := by
  rcases m_beg_at f q 48 (-1) (Nat.le_refl _) with ⟨h2, -⟩ | ⟨a, n, h2, h3, h4⟩
  · rw [h2] at h1; exact absurd h1 h0
  · rw [h3] at h1
    obtain ⟨i, e, hi⟩ := z_lt_nat (by omega) h0 h1
    exact z_ix (j := a + i) (by rw [h2, e]; exact z_pl rfl rfl) (by omega) (by decide)
theorem m_hand_17 (ki ha : zA) (q : Int32) : m_hand ki ha q + 1 ≤ 17 := Nat.succ_le_succ (m_handF_lt ki ha q 16)
theorem m_perm_17 (ki na : zA) (q : Int32) : m_perm ki na q + 1 ≤ 17 := Nat.succ_le_succ (m_permF_lt ki na q 16)
