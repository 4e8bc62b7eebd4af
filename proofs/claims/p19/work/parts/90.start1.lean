theorem z_Nc_of {s : State} {b : Nat} (hgv : (Jvm.Cond.and given_1 narrow_1).before #[Value.ref b] s = true) : z_Nc s := by
  have hs := flat_of_before _ hgv
  have h12 : va_Nc (z_E 1) (z_E 2) s := va_Nc.of (C := "java/lang/IllegalStateException") (T := "java/lang/IllegalArgumentException") (hs _ (by decide +kernel))
  have h13 : va_Nc (z_E 1) (z_E 3) s := va_Nc.of (C := "java/lang/IllegalStateException") (T := "java/lang/UnsupportedOperationException") (hs _ (by decide +kernel))
  have h14 : va_Nc (z_E 1) (z_E 4) s := va_Nc.of (C := "java/lang/IllegalStateException") (T := "java/util/NoSuchElementException") (hs _ (by decide +kernel))
  have h21 : va_Nc (z_E 2) (z_E 1) s := va_Nc.of (C := "java/lang/IllegalArgumentException") (T := "java/lang/IllegalStateException") (hs _ (by decide +kernel))
  have h23 : va_Nc (z_E 2) (z_E 3) s := va_Nc.of (C := "java/lang/IllegalArgumentException") (T := "java/lang/UnsupportedOperationException") (hs _ (by decide +kernel))
  have h24 : va_Nc (z_E 2) (z_E 4) s := va_Nc.of (C := "java/lang/IllegalArgumentException") (T := "java/util/NoSuchElementException") (hs _ (by decide +kernel))
  have h31 : va_Nc (z_E 3) (z_E 1) s := va_Nc.of (C := "java/lang/UnsupportedOperationException") (T := "java/lang/IllegalStateException") (hs _ (by decide +kernel))
  have h32 : va_Nc (z_E 3) (z_E 2) s := va_Nc.of (C := "java/lang/UnsupportedOperationException") (T := "java/lang/IllegalArgumentException") (hs _ (by decide +kernel))
  have h34 : va_Nc (z_E 3) (z_E 4) s := va_Nc.of (C := "java/lang/UnsupportedOperationException") (T := "java/util/NoSuchElementException") (hs _ (by decide +kernel))
  have h41 : va_Nc (z_E 4) (z_E 1) s := va_Nc.of (C := "java/util/NoSuchElementException") (T := "java/lang/IllegalStateException") (hs _ (by decide +kernel))
  have h42 : va_Nc (z_E 4) (z_E 2) s := va_Nc.of (C := "java/util/NoSuchElementException") (T := "java/lang/IllegalArgumentException") (hs _ (by decide +kernel))
  have h43 : va_Nc (z_E 4) (z_E 3) s := va_Nc.of (C := "java/util/NoSuchElementException") (T := "java/lang/UnsupportedOperationException") (hs _ (by decide +kernel))
  intro i j h1 h2 h3 h4 h5
  match i, j, h1, h2, h3, h4, h5 with
  | 1, 1, _, _, _, _, h => exact absurd rfl h
  | 1, 2, _, _, _, _, h => exact h12
  | 1, 3, _, _, _, _, h => exact h13
  | 1, 4, _, _, _, _, h => exact h14
  | 2, 1, _, _, _, _, h => exact h21
  | 2, 2, _, _, _, _, h => exact absurd rfl h
  | 2, 3, _, _, _, _, h => exact h23
  | 2, 4, _, _, _, _, h => exact h24
  | 3, 1, _, _, _, _, h => exact h31
  | 3, 2, _, _, _, _, h => exact h32
  | 3, 3, _, _, _, _, h => exact absurd rfl h
  | 3, 4, _, _, _, _, h => exact h34
  | 4, 1, _, _, _, _, h => exact h41
  | 4, 2, _, _, _, _, h => exact h42
  | 4, 3, _, _, _, _, h => exact h43
  | 4, 4, _, _, _, _, h => exact absurd rfl h
  | 0, _, h, _, _, _, _ => exact absurd h (by decide)
  | i + 5, _, _, h, _, _, _ => exact absurd h (by omega)
  | 1, 0, _, _, h, _, _ => exact absurd h (by decide)
  | 1, j + 5, _, _, _, h, _ => exact absurd h (by omega)
  | 2, 0, _, _, h, _, _ => exact absurd h (by decide)
  | 2, j + 5, _, _, _, h, _ => exact absurd h (by omega)
  | 3, 0, _, _, h, _, _ => exact absurd h (by decide)
  | 3, j + 5, _, _, _, h, _ => exact absurd h (by omega)
  | 4, 0, _, _, h, _, _ => exact absurd h (by decide)
  | 4, j + 5, _, _, _, h, _ => exact absurd h (by omega)
theorem z_Th_of {s : State} {b : Nat} (hgv : (Jvm.Cond.and given_1 narrow_1).before #[Value.ref b] s = true) (hts : ∀ w ∈ lw_tbl, w.before #[Value.ref b] s = true) {cur : ClassId} (hcur : s.vm.findClass RX3 = some cur) : z_Th (fun q : Nat => s.heap.size ≤ q) s s.heap := by
  have hs := flat_of_before _ hgv
  refine ⟨vx_Zqof (args := #[Value.ref b]) (hts _ (by decide +kernel)) (hts _ (by decide +kernel)) (hs _ (by decide +kernel)) (fun a h => Nat.not_le.mpr h), vx_Zqof (args := #[Value.ref b]) (hts _ (by decide +kernel)) (hts _ (by decide +kernel)) (hs _ (by decide +kernel)) (fun a h => Nat.not_le.mpr h), z_Ng_of (fun w hw => hts w (z_ng_in w hw)), z_strs hcur (fun q hq => hts _ (z_st_in q hq))⟩
