def v_len (dd : zD) (b : Int32) : Int32 := if b = 0 then d_spare dd.1 dd.2.1 dd.2.2.2.2 else b
abbrev v_ent3 (w : zP) (dd ee : zD) (h : Int32) : Nat × Int32 × zP × zD × zD :=
  if v_rf ee = 0 then (if (v_change w dd ee).1 = false then (0, -1, (v_change w dd ee).2.1, (v_change w dd ee).2.2, ee) else (0, h, (v_change w dd ee).2.1, (v_change w dd ee).2.2, ee)) else (v_rf ee, 0, w, dd, ee)
abbrev v_ent2 (w : zP) (dd ee : zD) (nm h len : Int32) : Nat × Int32 × zP × zD × zD :=
  if len = 0 then (3, 0, w, dd, ee) else if d_room dd.1 dd.2.1 dd.2.2.2.2 len = -1 then (3, 0, w, dd, ee) else v_ent3 w dd (v_dO dd ee (d_room dd.1 dd.2.1 dd.2.2.2.2 len) 1 len nm h) h
def v_enter (w : zP) (dd ee : zD) (nm b : Int32) : Nat × Int32 × zP × zD × zD :=
  if v_pw w = 0 then (if v_nm nm = 0 then (if b < 0 then (2, 0, w, dd, ee) else if b ≤ 48 then
    (if d_free dd.1 dd.2.2.2.1 dd.2.2.2.2 = -1 then (1, 0, w, dd, ee) else v_ent2 w dd ee nm (d_free dd.1 dd.2.2.2.1 dd.2.2.2.2) (v_len dd b)) else (2, 0, w, dd, ee)) else (v_nm nm, 0, w, dd, ee)) else (v_pw w, 0, w, dd, ee)
abbrev v_T (dd : zD) (h : Int32) : Int32 := d_tent dd.1 dd.2.2.2.1 dd.2.2.2.2 h
abbrev v_P (dd : zD) (q : Int32) : Int32 := d_perm dd.1 dd.2.2.1 dd.2.2.2.2 q
def v_put (w : zP) (ca : zA) (dd : zD) (h b q : Int32) : Nat × Int32 × zP × zA :=
  if v_pw w = 0 then (if v_rt dd h = 0 then (if v_rb dd (v_T dd h) b = 0 then
    (if (v_wb w ca (d_begin dd.2.1 dd.2.2.2.2 (v_T dd h) + b) q).1 = false then (0, -1, (v_wb w ca (d_begin dd.2.1 dd.2.2.2.2 (v_T dd h) + b) q).2) else (0, 0, (v_wb w ca (d_begin dd.2.1 dd.2.2.2.2 (v_T dd h) + b) q).2))
    else (v_rb dd (v_T dd h) b, 0, w, ca)) else (v_rt dd h, 0, w, ca)) else (v_pw w, 0, w, ca)
def v_close (w : zP) (dd ee : zD) (h u : Int32) : Nat × Int32 × zP × zD × zD :=
  if v_pw w = 0 then (if v_rt dd h = 0 then (if u < 1 then (2, 0, w, dd, ee) else if u ≤ r_at 17 dd.2.1 (v_T dd h) then
    v_ent3 w dd (v_dC dd ee (v_T dd h) u) (d_emp (v_dC dd ee (v_T dd h) u).1 (v_dC dd ee (v_T dd h) u).2.1 (v_dC dd ee (v_T dd h) u).2.2.2.2 - d_emp dd.1 dd.2.1 dd.2.2.2.2)
    else (2, 0, w, dd, ee)) else (v_rt dd h, 0, w, dd, ee)) else (v_pw w, 0, w, dd, ee)
def v_purge (w : zP) (dd ee : zD) (h : Int32) : Nat × Int32 × zP × zD × zD :=
  if v_pw w = 0 then (if v_rt dd h = 0 then (0, v_me w dd ee (v_T dd h)) else (v_rt dd h, 0, w, dd, ee)) else (v_pw w, 0, w, dd, ee)
def v_delete (w : zP) (dd ee : zD) (q : Int32) : Nat × Int32 × zP × zD × zD :=
  if v_pw w = 0 then (if v_rp dd q = 0 then (0, v_me w dd ee (v_P dd q)) else (v_rp dd q, 0, w, dd, ee)) else (v_pw w, 0, w, dd, ee)
abbrev v_dN (dd ee : zD) (k to : Int32) : zD := v_dO dd ee k 2 (r_at 17 dd.2.1 k) to (-1)
def v_rename (w : zP) (dd ee : zD) (q to : Int32) : Nat × Int32 × zP × zD × zD :=
  if v_pw w = 0 then (if v_nm to = 0 then (if v_rp dd q = 0 then (if d_perm dd.1 dd.2.2.1 dd.2.2.2.2 to = -1 then
    (if (v_change w dd (v_dN dd ee (v_P dd q) to)).1 = false then (0, -1, (v_change w dd (v_dN dd ee (v_P dd q) to)).2.1, (v_change w dd (v_dN dd ee (v_P dd q) to)).2.2, v_dN dd ee (v_P dd q) to) else
      (0, 0, (v_change w dd (v_dN dd ee (v_P dd q) to)).2.1, (v_change w dd (v_dN dd ee (v_P dd q) to)).2.2, v_dN dd ee (v_P dd q) to))
    else (3, 0, w, dd, ee)) else (v_rp dd q, 0, w, dd, ee)) else (v_nm to, 0, w, dd, ee)) else (v_pw w, 0, w, dd, ee)
def v_read (w : zP) (ca : zA) (dd : zD) (q b : Int32) : Nat × Int32 :=
  if v_pw w = 0 then (if v_rp dd q = 0 then (if v_rb dd (v_P dd q) b = 0 then (0, r_at 48 ca (d_begin dd.2.1 dd.2.2.2.2 (v_P dd q) + b)) else (v_rb dd (v_P dd q) b, 0)) else (v_rp dd q, 0)) else (v_pw w, 0)
def v_squeeze (v : zV) : Nat × Int32 × zV :=
  if v_pw v.1 = 0 then (if d_count v.2.2.1.1 v.2.2.1.2.2.2.2 1 ≤ 0 then (0, v_ma v) else (1, 0, v)) else (v_pw v.1, 0, v)
def v_mt2 (v : zV) : Nat × Int32 × zV :=
  if d_count v.2.2.1.1 v.2.2.1.2.2.2.2 1 ≤ 0 then (0, d_count v.2.2.1.1 v.2.2.1.2.2.2.2 2, v) else
    (0, d_count (v_change v.1 v.2.2.1 (v_dW v.2.2.1 v.2.2.2.1)).2.2.1 (v_change v.1 v.2.2.1 (v_dW v.2.2.1 v.2.2.2.1)).2.2.2.2.2.2 2, (v_change v.1 v.2.2.1 (v_dW v.2.2.1 v.2.2.2.1)).2.1, v.2.1, (v_change v.1 v.2.2.1 (v_dW v.2.2.1 v.2.2.2.1)).2.2, v_dW v.2.2.1 v.2.2.2.1, v.2.2.2.2)
def v_mount (v : zV) : Nat × Int32 × zV :=
  if v.1.1 = false then (if v.2.2.2.2.1 = false then v_mt2 (pw_come v.1, v.2) else v_mt2 (v_ma (pw_come v.1, v.2)).2) else (1, 0, v)
def v_cut (w : zP) (n : Int32) : Nat × zP := if v_pw w = 0 then (if -1 ≤ n then (0, pw_fail w n) else (2, w)) else (v_pw w, w)
def v_entry (w : zP) (dd : zD) (k a : Int32) : Nat × Int32 :=
  if v_pw w = 0 then (if a < 0 then (2, 0) else if a ≤ 3 then (if k < 0 then (5, 0) else if k < dd.2.2.2.2 then
    (if a = 0 then (0, r_at 17 dd.1 k) else if a = 1 then (0, d_begin dd.2.1 dd.2.2.2.2 k) else if a = 2 then (0, r_at 17 dd.2.1 k) else (0, r_at 17 dd.2.2.1 k)) else (5, 0)) else (2, 0)) else (v_pw w, 0)
def v_entries (w : zP) (dd : zD) : Nat × Int32 := if v_pw w = 0 then (0, dd.2.2.2.2) else (v_pw w, 0)
def v_free (w : zP) (dd : zD) (a : Int32) : Nat × Int32 := if v_pw w = 0 then (if a = 0 then (0, d_emp dd.1 dd.2.1 dd.2.2.2.2) else (0, d_long dd.1 dd.2.1 dd.2.2.2.2)) else (v_pw w, 0)
def v_handle (w : zP) (dd : zD) (q : Int32) : Nat × Int32 := if v_pw w = 0 then (0, d_hand dd.1 dd.2.2.1 dd.2.2.2.1 dd.2.2.2.2 q) else (v_pw w, 0)
theorem v_swo {x : Int32} (h0 : ¬ x = 0) (h1 : ¬ x = 1) (h2 : ¬ x = 2) : x.toInt < 0 ∨ 2 < x.toInt := by
  have f : ∀ q : Int32, ¬ x = q → ¬ x.toInt = q.toInt := fun q h e => h (Int32.toInt_inj.mp e)
  have a0 := f 0 h0
  have a1 := f 1 h1
  have a2 := f 2 h2
  have e0 : (0 : Int32).toInt = 0 := rfl
  have e1 : (1 : Int32).toInt = 1 := rfl
  have e2 : (2 : Int32).toInt = 2 := rfl
  omega
