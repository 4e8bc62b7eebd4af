/-- what holds of the draft, the power .. behind each method of the class: numbers alone -/
def v_pw (w : zP) : Nat := if w.1 = false then 1 else 0
def v_nm (q : Int32) : Nat := if q < 1 then 2 else if q ≤ 999 then 0 else 2
def v_rt (dd : zD) (q : Int32) : Nat := if d_tent dd.1 dd.2.2.2.1 dd.2.2.2.2 q = -1 then 4 else 0
def v_rp (dd : zD) (q : Int32) : Nat := if d_perm dd.1 dd.2.2.1 dd.2.2.2.2 q = -1 then 4 else 0
def v_rb (dd : zD) (k b : Int32) : Nat := if b < 0 then 2 else if b < r_at 17 dd.2.1 k then 0 else 2
def v_rf (ee : zD) : Nat := if ee.2.2.2.2 ≤ 16 then 0 else 3
/-- n writes, one after the other: false when power fails in them -/
def v_writes : Nat → zP → Bool × zP
  | 0, w => (true, w)
  | k + 1, w => if (pw_write w).1 = false then (false, (pw_write w).2) else v_writes k (pw_write w).2
def v_n (ee : zD) : Int32 := (ee.2.2.2.2 + 4 - 1) / 4 + 1
def v_change (w : zP) (dd ee : zD) : Bool × zP × zD :=
  if (v_writes (v_n ee).toNatClampNeg w).1 = false then (false, (v_writes (v_n ee).toNatClampNeg w).2, dd) else (true, (v_writes (v_n ee).toNatClampNeg w).2, d_take dd ee)
def v_wb (w : zP) (ca : zA) (b q : Int32) : Bool × zP × zA :=
  if (pw_write w).1 = false then (false, (pw_write w).2, ca) else (true, (pw_write w).2, r_set 48 ca b q)
def v_wl (w : zP) (sq : Bool) (le b : Int32) : Bool × zP × Bool × Int32 :=
  if (pw_write w).1 = false then (false, (pw_write w).2, sq, le) else (true, (pw_write w).2, true, b)
def v_dO (dd ee : zD) (k kd len nm h : Int32) : zD := d_addR (d_addE (d_add (d_addR (d_clear ee) dd 0 k) kd len nm h) (r_at 17 dd.2.1 k - len)) dd (k + 1) dd.2.2.2.2
def v_dM (dd ee : zD) (g : Int32) : zD := d_addR (d_addE (d_addR (d_addR (d_clear ee) dd 0 g) dd (g + 1) (g + 2)) (r_at 17 dd.2.1 g)) dd (g + 2) dd.2.2.2.2
abbrev v_dE (dd ee : zD) (k : Int32) : zD := v_dO dd ee k 0 (r_at 17 dd.2.1 k) 0 (-1)
theorem d_addE_0 (d : zD) : d_addE d 0 = d := by rw [d_addE, if_pos (by decide)]
def v_dCF (dd : zD) (k used nm old : Int32) : Nat → Int32 → zD → zD
  | 0, _, d => d
  | n + 1, i, d => if i = k then v_dCF dd k used nm old n (i + 1) (d_addE (d_add d 2 used nm (-1)) (r_at 17 dd.2.1 i - used)) else
      if i = old then v_dCF dd k used nm old n (i + 1) (d_addE d (r_at 17 dd.2.1 i)) else v_dCF dd k used nm old n (i + 1) (d_addR d dd i (i + 1))
def v_dC (dd ee : zD) (k used : Int32) : zD := v_dCF dd k used (r_at 17 dd.2.2.1 k) (d_perm dd.1 dd.2.2.1 dd.2.2.2.2 (r_at 17 dd.2.2.1 k)) (dd.2.2.2.2.toInt - (0 : Int32).toInt).toNat 0 (d_clear ee)
def v_dWF (dd : zD) : Nat → Int32 → zD → zD
  | 0, _, d => d
  | n + 1, i, d => if r_at 17 dd.1 i = 1 then v_dWF dd n (i + 1) (d_addE d (r_at 17 dd.2.1 i)) else v_dWF dd n (i + 1) (d_addR d dd i (i + 1))
def v_dW (dd ee : zD) : zD := v_dWF dd (dd.2.2.2.2.toInt - (0 : Int32).toInt).toNat 0 (d_clear ee)
def v_me (w : zP) (dd ee : zD) (k : Int32) : Int32 × zP × zD × zD :=
  if (v_change w dd (v_dE dd ee k)).1 = false then (-1, (v_change w dd (v_dE dd ee k)).2.1, (v_change w dd (v_dE dd ee k)).2.2, v_dE dd ee k) else
    (r_at 17 dd.2.1 k, (v_change w dd (v_dE dd ee k)).2.1, (v_change w dd (v_dE dd ee k)).2.2, v_dE dd ee k)
/-- a block is copied down, and on -/
abbrev zT : Type := zP × zA × Bool × Int32
abbrev v_cpB (t : zT) (to fr i : Int32) : Bool × zP × zA := v_wb t.1 t.2.1 (to + i) (r_at 48 t.2.1 (fr + i))
abbrev v_cpL (t : zT) (i : Int32) : Bool × zP × Bool × Int32 := v_wl t.1 t.2.2.1 t.2.2.2 i
def v_cpF (to fr grp : Int32) : Nat → Int32 → Int32 → zT → Bool × zT
  | 0, _, _, t => (true, t)
  | n + 1, i, cov, t =>
    if cov = 0 then
      (if (v_cpL t i).1 = false then (false, (v_cpL t i).2.1, t.2.1, (v_cpL t i).2.2) else
        if (v_cpB ((v_cpL t i).2.1, t.2.1, (v_cpL t i).2.2) to fr i).1 = false then (false, (v_cpB ((v_cpL t i).2.1, t.2.1, (v_cpL t i).2.2) to fr i).2.1, (v_cpB ((v_cpL t i).2.1, t.2.1, (v_cpL t i).2.2) to fr i).2.2, (v_cpL t i).2.2) else
        v_cpF to fr grp n (i + 1) (grp - 1) ((v_cpB ((v_cpL t i).2.1, t.2.1, (v_cpL t i).2.2) to fr i).2.1, (v_cpB ((v_cpL t i).2.1, t.2.1, (v_cpL t i).2.2) to fr i).2.2, (v_cpL t i).2.2))
    else
      (if (v_cpB t to fr i).1 = false then (false, (v_cpB t to fr i).2.1, (v_cpB t to fr i).2.2, t.2.2) else
        v_cpF to fr grp n (i + 1) (cov - 1) ((v_cpB t to fr i).2.1, (v_cpB t to fr i).2.2, t.2.2))
def v_grp (dd : zD) (g : Int32) : Int32 := i_min 8 (r_at 17 dd.2.1 g)
def v_cov (dd : zD) (g le : Int32) : Int32 := if le = -1 then 0 else v_grp dd g
def v_cp (w : zP) (ca : zA) (dd : zD) (sq : Bool) (le g : Int32) : Bool × zT :=
  v_cpF (d_begin dd.2.1 dd.2.2.2.2 g) (d_begin dd.2.1 dd.2.2.2.2 (g + 1)) (v_grp dd g) ((r_at 17 dd.2.1 (g + 1)).toInt - (i_max 0 le).toInt).toNat (i_max 0 le) (v_cov dd g le) (w, ca, sq, le)
abbrev zV : Type := zP × zA × zD × zD × Bool × Int32
/-- one move: false when power fails in it -/
def v_mv (v : zV) (g : Int32) : Bool × zV :=
  if (v_cp v.1 v.2.1 v.2.2.1 v.2.2.2.2.1 v.2.2.2.2.2 g).1 = false then
    (false, (v_cp v.1 v.2.1 v.2.2.1 v.2.2.2.2.1 v.2.2.2.2.2 g).2.1, (v_cp v.1 v.2.1 v.2.2.1 v.2.2.2.2.1 v.2.2.2.2.2 g).2.2.1, v.2.2.1, v.2.2.2.1, (v_cp v.1 v.2.1 v.2.2.1 v.2.2.2.2.1 v.2.2.2.2.2 g).2.2.2)
  else
    if (v_change (v_cp v.1 v.2.1 v.2.2.1 v.2.2.2.2.1 v.2.2.2.2.2 g).2.1 v.2.2.1 (v_dM v.2.2.1 v.2.2.2.1 g)).1 = false then
      (false, (v_change (v_cp v.1 v.2.1 v.2.2.1 v.2.2.2.2.1 v.2.2.2.2.2 g).2.1 v.2.2.1 (v_dM v.2.2.1 v.2.2.2.1 g)).2.1, (v_cp v.1 v.2.1 v.2.2.1 v.2.2.2.2.1 v.2.2.2.2.2 g).2.2.1, (v_change (v_cp v.1 v.2.1 v.2.2.1 v.2.2.2.2.1 v.2.2.2.2.2 g).2.1 v.2.2.1 (v_dM v.2.2.1 v.2.2.2.1 g)).2.2, v_dM v.2.2.1 v.2.2.2.1 g, (v_cp v.1 v.2.1 v.2.2.1 v.2.2.2.2.1 v.2.2.2.2.2 g).2.2.2)
    else
      (true, (v_change (v_cp v.1 v.2.1 v.2.2.1 v.2.2.2.2.1 v.2.2.2.2.2 g).2.1 v.2.2.1 (v_dM v.2.2.1 v.2.2.2.1 g)).2.1, (v_cp v.1 v.2.1 v.2.2.1 v.2.2.2.2.1 v.2.2.2.2.2 g).2.2.1, (v_change (v_cp v.1 v.2.1 v.2.2.1 v.2.2.2.2.1 v.2.2.2.2.2 g).2.1 v.2.2.1 (v_dM v.2.2.1 v.2.2.2.1 g)).2.2, v_dM v.2.2.1 v.2.2.2.1 g, (v_cp v.1 v.2.1 v.2.2.1 v.2.2.2.2.1 v.2.2.2.2.2 g).2.2.2.1, -1)
abbrev v_gap (v : zV) : Int32 := d_gap v.2.2.1.1 v.2.2.1.2.2.2.2
def v_end (v : zV) : zV := (v.1, v.2.1, v.2.2.1, v.2.2.2.1, false, v.2.2.2.2.2)
/-- moves, n at most: how many blocks were copied, or -1 -/
def v_maF : Nat → Int32 → zV → Int32 × zV
  | 0, cp, v => (cp, v_end v)
  | n + 1, cp, v => if v_gap v = -1 then (cp, v_end v) else
      if (v_mv v (v_gap v)).1 = false then (-1, (v_mv v (v_gap v)).2) else v_maF n (cp + r_at 17 v.2.2.1.2.1 (v_gap v + 1)) (v_mv v (v_gap v)).2
def v_ma (v : zV) : Int32 × zV := v_maF 16 0 v
theorem xn_67 : ∀ w ∈ (vx_atS RX3 67 "java/lang/IllegalStateException" ["java/lang/RuntimeException", "java/lang/Exception"]).filter (fun w => !goodWord w), w ∈ z_Ng := by decide +kernel
theorem xg_67 : ∀ w ∈ Cond.classLink RX3 63 "java/lang/IllegalStateException" :: Cond.initialized "java/lang/IllegalStateException" :: vx_atS RX3 67 "java/lang/IllegalStateException" ["java/lang/RuntimeException", "java/lang/Exception"], vx_ot w = true := by decide +kernel
theorem xn_56 : ∀ w ∈ (vx_atS RX3 56 "java/lang/IllegalArgumentException" ["java/lang/RuntimeException", "java/lang/Exception"]).filter (fun w => !goodWord w), w ∈ z_Ng := by decide +kernel
theorem xg_56 : ∀ w ∈ Cond.classLink RX3 52 "java/lang/IllegalArgumentException" :: Cond.initialized "java/lang/IllegalArgumentException" :: vx_atS RX3 56 "java/lang/IllegalArgumentException" ["java/lang/RuntimeException", "java/lang/Exception"], vx_ot w = true := by decide +kernel
theorem xn_79 : ∀ w ∈ (vx_atS RX3 79 "java/lang/UnsupportedOperationException" ["java/lang/RuntimeException", "java/lang/Exception"]).filter (fun w => !goodWord w), w ∈ z_Ng := by decide +kernel
theorem xg_79 : ∀ w ∈ Cond.classLink RX3 75 "java/lang/UnsupportedOperationException" :: Cond.initialized "java/lang/UnsupportedOperationException" :: vx_atS RX3 79 "java/lang/UnsupportedOperationException" ["java/lang/RuntimeException", "java/lang/Exception"], vx_ot w = true := by decide +kernel
theorem xn_190 : ∀ w ∈ (vx_atS RX3 190 "java/util/NoSuchElementException" ["java/lang/RuntimeException", "java/lang/Exception"]).filter (fun w => !goodWord w), w ∈ z_Ng := by decide +kernel
theorem xg_190 : ∀ w ∈ Cond.classLink RX3 186 "java/util/NoSuchElementException" :: Cond.initialized "java/util/NoSuchElementException" :: vx_atS RX3 190 "java/util/NoSuchElementException" ["java/lang/RuntimeException", "java/lang/Exception"], vx_ot w = true := by decide +kernel
theorem z_st179 : (179, "power is off") ∈ z_Strs := by simp [z_Strs]
theorem z_st133 : (133, "there are tentative files") ∈ z_Strs := by simp [z_Strs]
theorem z_st149 : (149, "n is less than -1") ∈ z_Strs := by simp [z_Strs]
theorem z_st141 : (141, "power is on") ∈ z_Strs := by simp [z_Strs]
theorem z_st181 : (181, "a name is not 1 .. 999") ∈ z_Strs := by simp [z_Strs]
theorem z_st54 : (54, "blocks is not 0 .. 48") ∈ z_Strs := by simp [z_Strs]
theorem z_st65 : (65, "there are 4 tentative files") ∈ z_Strs := by simp [z_Strs]
theorem z_st77 : (77, "no empty entry is long enough") ∈ z_Strs := by simp [z_Strs]
theorem z_st195 : (195, "there would be more than 16 entries") ∈ z_Strs := by simp [z_Strs]
theorem z_st188 : (188, "there is no such handle") ∈ z_Strs := by simp [z_Strs]
theorem z_st193 : (193, "the file has no such block") ∈ z_Strs := by simp [z_Strs]
theorem z_st108 : (108, "used is not 1 .. the file's length") ∈ z_Strs := by simp [z_Strs]
theorem z_st191 : (191, "there is no permanent file with the name") ∈ z_Strs := by simp [z_Strs]
theorem z_st125 : (125, "there is a permanent file with that name") ∈ z_Strs := by simp [z_Strs]
