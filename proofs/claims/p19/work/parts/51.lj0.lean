/-- how many of the names 1 .. j have a file -/
def s_cn (f : zA) : Nat → Int32
  | 0 => 0
  | j + 1 => if f (j + 1) ≤ 0 then s_cn f j + 0 else s_cn f j + 1
def l_mended (x : zV) (f : zA) : Bool × zV :=
  if x.1.1 = false then
    (if e_map [(1, -2)] (v_mount x).1 (v_mount x).2.1 = s_cn f 6 then (if (v_mount x).2.2.1.1 = false then (false, (v_mount x).2.2) else (true, (v_mount x).2.2)) else (false, (v_mount x).2.2))
  else (true, x)
/-- the state behind a call that changes power, directory, draft -/
abbrev l_S (x : zV) (r : zP × zD × zD) : zV := (r.1, x.2.1, r.2.1, r.2.2, x.2.2.2.2)
abbrev l_pr (x : zV) (h : Int32) : Nat × Int32 × zP × zD × zD := v_purge x.1 x.2.2.1 x.2.2.2.1 h
abbrev l_cl (x : zV) (h u : Int32) : Nat × Int32 × zP × zD × zD := v_close x.1 x.2.2.1 x.2.2.2.1 h u
abbrev l_en (x : zV) (q n : Int32) : Nat × Int32 × zP × zD × zD := v_enter x.1 x.2.2.1 x.2.2.2.1 q n
abbrev l_de (x : zV) (q : Int32) : Nat × Int32 × zP × zD × zD := v_delete x.1 x.2.2.1 x.2.2.2.1 q
abbrev l_re (x : zV) (q t : Int32) : Nat × Int32 × zP × zD × zD := v_rename x.1 x.2.2.1 x.2.2.2.1 q t
abbrev l_pu (x : zV) (h b q : Int32) : Nat × Int32 × zP × zA := v_put x.1 x.2.1 x.2.2.1 h b q
def l_undone (x : zV) (h n : Int32) : Bool × zV :=
  if e_map [(1, -2), (4, -3)] (l_pr x h).1 (l_pr x h).2.1 = n then (true, l_S x (l_pr x h).2.2) else
    if e_map [(1, -2), (4, -3)] (l_pr x h).1 (l_pr x h).2.1 = -1 then (if (l_pr x h).2.2.1.1 = false then (true, l_S x (l_pr x h).2.2) else (false, l_S x (l_pr x h).2.2)) else (false, l_S x (l_pr x h).2.2)
def l_purged (x : zV) (h n : Int32) : Bool × zV :=
  if e_map [(1, -2), (4, -3), (2, -4), (3, -5)] (l_cl x h (n + 1)).1 (l_cl x h (n + 1)).2.1 = -4 then
    (if (l_undone (l_S x (l_cl x h (n + 1)).2.2) h n).1 = false then (false, (l_undone (l_S x (l_cl x h (n + 1)).2.2) h n).2) else (true, (l_undone (l_S x (l_cl x h (n + 1)).2.2) h n).2))
  else (false, l_S x (l_cl x h (n + 1)).2.2)
def l_remove (x : zV) (f : zA) (q : Int32) (kk : Nat) : Bool × zA × zV :=
  if e_map [(1, -2), (4, -3)] (l_de x q).1 (l_de x q).2.1 = -1 then
    (if (l_de x q).2.2.1.1 = false then (if f kk ≤ 0 then (false, f, l_S x (l_de x q).2.2) else (true, f, l_S x (l_de x q).2.2)) else (false, f, l_S x (l_de x q).2.2))
  else (if f kk ≤ 0 then (if e_map [(1, -2), (4, -3)] (l_de x q).1 (l_de x q).2.1 = -3 then (true, upd f kk 0, l_S x (l_de x q).2.2) else (false, upd f kk 0, l_S x (l_de x q).2.2))
    else (if e_map [(1, -2), (4, -3)] (l_de x q).1 (l_de x q).2.1 = f kk then (true, upd f kk 0, l_S x (l_de x q).2.2) else (false, upd f kk 0, l_S x (l_de x q).2.2)))
abbrev l_caB (x : zV) (f : zA) (g : Int32) (kk jj : Nat) : Bool × zA × zV :=
  if g = 0 then (true, upd (upd (upd f jj (f kk)) (8 + jj) ((upd f jj (f kk)) (8 + kk))) kk 0, x) else (true, f, x)
def l_call (x : zV) (f : zA) (q t : Int32) (kk jj : Nat) : Bool × zA × zV :=
  if e_map [(1, -2), (2, -3), (4, -4), (3, -5)] (l_re x q t).1 (l_re x q t).2.1 = -1 then
    (if (l_re x q t).2.2.1.1 = false then (if f kk ≤ 0 then (false, f, l_S x (l_re x q t).2.2) else (true, f, l_S x (l_re x q t).2.2)) else (false, f, l_S x (l_re x q t).2.2))
  else if f kk = 0 then (if e_map [(1, -2), (2, -3), (4, -4), (3, -5)] (l_re x q t).1 (l_re x q t).2.1 = -4 then l_caB (l_S x (l_re x q t).2.2) f (e_map [(1, -2), (2, -3), (4, -4), (3, -5)] (l_re x q t).1 (l_re x q t).2.1) kk jj else (false, f, l_S x (l_re x q t).2.2))
    else if f jj ≤ 0 then (if e_map [(1, -2), (2, -3), (4, -4), (3, -5)] (l_re x q t).1 (l_re x q t).2.1 = 0 then l_caB (l_S x (l_re x q t).2.2) f (e_map [(1, -2), (2, -3), (4, -4), (3, -5)] (l_re x q t).1 (l_re x q t).2.1) kk jj else (false, f, l_S x (l_re x q t).2.2))
    else (if e_map [(1, -2), (2, -3), (4, -4), (3, -5)] (l_re x q t).1 (l_re x q t).2.1 = -5 then l_caB (l_S x (l_re x q t).2.2) f (e_map [(1, -2), (2, -3), (4, -4), (3, -5)] (l_re x q t).1 (l_re x q t).2.1) kk jj else (false, f, l_S x (l_re x q t).2.2))
/-- store, behind the closing that was refused -/
abbrev l_stP (x : zV) (f : zA) (g h n : Int32) : Bool × zA × zV :=
  if g = -5 then (if (l_purged x h n).1 = false then (false, f, (l_purged x h n).2) else (true, f, (l_purged x h n).2)) else (false, f, x)
/-- store, from the closing on -/
abbrev l_stC (x : zV) (f : zA) (h val n u : Int32) (kk : Nat) : Bool × zA × zV :=
  if e_map [(1, -2), (4, -3), (2, -4), (3, -5)] (l_cl x h u).1 (l_cl x h u).2.1 < 0 then
    (if e_map [(1, -2), (4, -3), (2, -4), (3, -5)] (l_cl x h u).1 (l_cl x h u).2.1 = -1 then (if (l_cl x h u).2.2.1.1 = false then (true, f, l_S x (l_cl x h u).2.2) else l_stP (l_S x (l_cl x h u).2.2) f (e_map [(1, -2), (4, -3), (2, -4), (3, -5)] (l_cl x h u).1 (l_cl x h u).2.1) h n)
      else l_stP (l_S x (l_cl x h u).2.2) f (e_map [(1, -2), (4, -3), (2, -4), (3, -5)] (l_cl x h u).1 (l_cl x h u).2.1) h n)
  else (if e_map [(1, -2), (4, -3), (2, -4), (3, -5)] (l_cl x h u).1 (l_cl x h u).2.1 = n - u + f kk then (true, upd (upd f kk u) (8 + kk) val, l_S x (l_cl x h u).2.2) else (false, upd (upd f kk u) (8 + kk) val, l_S x (l_cl x h u).2.2))
/-- store, the filling -/
def l_stF (f : zA) (h val n u : Int32) (kk : Nat) : Nat → Int32 → zV → Bool × zA × zV
  | 0, _, x => l_stC x f h val n u kk
  | r + 1, b, x => if 0 ≤ e_map [(1, -2), (4, -3), (2, -4)] (l_pu x h b (val + b)).1 (l_pu x h b (val + b)).2.1 then l_stF f h val n u kk r (b + 1) ((l_pu x h b (val + b)).2.2.1, (l_pu x h b (val + b)).2.2.2, x.2.2)
      else if e_map [(1, -2), (4, -3), (2, -4)] (l_pu x h b (val + b)).1 (l_pu x h b (val + b)).2.1 = -1 then (if (l_pu x h b (val + b)).2.2.1.1 = false then (true, f, ((l_pu x h b (val + b)).2.2.1, (l_pu x h b (val + b)).2.2.2, x.2.2)) else (false, f, ((l_pu x h b (val + b)).2.2.1, (l_pu x h b (val + b)).2.2.2, x.2.2)))
      else (false, f, ((l_pu x h b (val + b)).2.2.1, (l_pu x h b (val + b)).2.2.2, x.2.2))
abbrev l_f1 (f : zA) (kk : Nat) : zA := upd f (16 + kk) (f (16 + kk) + 1)
abbrev l_val (f : zA) (q : Int32) (kk : Nat) : Int32 := 10000 * q + 100 * (l_f1 f kk) (16 + kk)
/-- store, where nothing was opened -/
abbrev l_stE (x : zV) (f : zA) (g n : Int32) : Bool × zA × zV :=
  if g = -4 then (if e_map [(1, -2)] (v_free x.1 x.2.2.1 1).1 (v_free x.1 x.2.2.1 1).2 < n then (true, f, x) else
      if e_map [(1, -2)] (v_entries x.1 x.2.2.1).1 (v_entries x.1 x.2.2.1).2 = 16 then (true, f, x) else if g = -1 then (if x.1.1 = false then (true, f, x) else (false, f, x)) else (false, f, x))
    else if g = -1 then (if x.1.1 = false then (true, f, x) else (false, f, x)) else (false, f, x)
def l_store (x : zV) (f : zA) (q n u : Int32) (kk vv : Nat) : Bool × zA × zV :=
  if 0 ≤ e_map [(1, -2), (2, -3), (3, -4)] (l_en x q n).1 (l_en x q n).2.1 then l_stF (l_f1 f kk) (e_map [(1, -2), (2, -3), (3, -4)] (l_en x q n).1 (l_en x q n).2.1) (l_val f q kk) n u kk vv 0 (l_S x (l_en x q n).2.2)
    else l_stE (l_S x (l_en x q n).2.2) (l_f1 f kk) (e_map [(1, -2), (2, -3), (3, -4)] (l_en x q n).1 (l_en x q n).2.1) n
/-- same: what is read of one name, from a block on -/
def l_smB (w : zP) (ca : zA) (dd : zD) (f : zA) (q : Int32) (jj : Nat) (T : Bool) : Nat → Int32 → Bool
  | 0, _ => T
  | n + 1, b => if e_map [(1, 700000001), (4, 700000002), (2, 700000003)] (v_read w ca dd q b).1 (v_read w ca dd q b).2 = f (8 + jj) + b then l_smB w ca dd f q jj T n (b + 1) else false
abbrev l_smH (w : zP) (dd : zD) (q : Int32) (T : Bool) : Bool := if e_map [(1, -2)] (v_handle w dd q).1 (v_handle w dd q).2 = -1 then T else false
abbrev l_smK (w : zP) (ca : zA) (dd : zD) (f : zA) (q : Int32) (jj : Nat) (T : Bool) : Bool :=
  if f jj ≤ 0 then (if e_map [(1, 700000001), (4, 700000002), (2, 700000003)] (v_read w ca dd q (f jj)).1 (v_read w ca dd q (f jj)).2 = 700000002 then l_smH w dd q T else false)
    else (if e_map [(1, 700000001), (4, 700000002), (2, 700000003)] (v_read w ca dd q (f jj)).1 (v_read w ca dd q (f jj)).2 = 700000003 then l_smH w dd q T else false)
def l_smF (w : zP) (ca : zA) (dd : zD) (f : zA) : Nat → Int32 → Nat → Int32 → Bool
  | 0, _, _, a => if e_map [(1, -2)] (v_free w dd 0).1 (v_free w dd 0).2 = 48 - a then true else false
  | n + 1, q, jj, a => l_smB w ca dd f q jj (l_smK w ca dd f q jj (l_smF w ca dd f n (q + 1) (jj + 1) (a + f jj))) (f jj).toNatClampNeg 0
def l_same (w : zP) (ca : zA) (dd : zD) (f : zA) : Bool := l_smF w ca dd f 6 1 1 0
theorem s_in {p y : Int32} {k d n : Nat} (e : p = nI k) (ed : y = nI d) (h : d + k < n) (hn : n < 2 ^ 31) : vp_in (y + p) n := by
  subst e ed
  rw [nI_add]
  exact vp_in_nI h hn
theorem s_ix {p y : Int32} {k d : Nat} (e : p = nI k) (ed : y = nI d) (h : d + k < 2 ^ 31) : (y + p).toNatClampNeg = d + k := by
  subst e ed
  rw [nI_add, nI_clamp h]
theorem s_in0 {p : Int32} {k n : Nat} (e : p = nI k) (h : k < n) (hn : n < 2 ^ 31) : vp_in p n := by
  subst e
  exact vp_in_nI h hn
theorem s_ix0 {p : Int32} {k : Nat} (e : p = nI k) (h : k < 2 ^ 31) : p.toNatClampNeg = k := by
  subst e
  exact nI_clamp h
theorem s_s7 {x : Int32} {j : Nat} (e : x = nI (j + 1)) (h : j ≤ 6) (c : ¬ 7 ≤ x) : j + 1 ≤ 6 := by
  have h1 : (7 : Int32).toNatClampNeg = 7 := rfl
  have h2 := z_c_gt (by omega) e c
  omega
theorem s_e7 {x : Int32} {j : Nat} (e : x = nI (j + 1)) (h : j ≤ 6) (c : 7 ≤ x) : j = 6 := by
  have h1 : (7 : Int32).toNatClampNeg = 7 := rfl
  have h2 := z_c_le (by omega) e c
  omega
theorem s_cN {x y : Int32} {j n : Nat} (e : x = nI j) (ey : y = nI n) (hj : j ≤ n) (hn : n < 2 ^ 31) (c : ¬ y ≤ x) : j + 1 ≤ n := by
  subst e ey
  rcases Nat.lt_or_ge j n with h | h
  · exact h
  · exact absurd (nI_le h (by omega)) c
theorem s_cE {x y : Int32} {j n : Nat} (e : x = nI j) (ey : y = nI n) (hj : j ≤ n) (hn : n < 2 ^ 31) (c : y ≤ x) : n - j = 0 := by
  subst e ey
  rcases Nat.lt_or_ge j n with h | h
  · exact absurd c (nI_ge h hn)
  · omega
theorem s_fu {j n : Nat} (h : j + 1 ≤ n) : n - j = (n - (j + 1)) + 1 := by omega

