/-! THEORY: blocks copied down -/
theorem t_w1t {w : zP} {wi : Bool} (hw : w.1 = true) : m_write (w.1, w.2.1, w.2.2, true) wi = ((pw_write w).1, (pw_write w).2.1, (pw_write w).2.2.1, (pw_write w).2.2.2, true) ∧ (pw_write w).2.1 = (pw_write w).1 := by
  have h := t_w1 (sq := true) (wi := wi) hw
  simp only [Bool.true_or, ite_self] at h
  exact h
theorem t_inn {wi : Bool} {a b len : Nat} (hb : b ≤ a) (hl : a + len ≤ 48) (grp le : Int32) : ∀ (c k e n : Nat) (w : zP) (ca ints : zA) (cp : Int32), k + c ≤ len → w.1 = true → (∀ x, x < 48 → ca x = ints x) → c + e < 2 ^ 31 →
    ∃ (w' : zP) (ca' ints' : zA), (∀ x, x < 48 → ca' x = ints' x) ∧
      ((w'.1 = false ∧ ∃ cp', m_mvI wi a b c k ((w.1, w.2.1, w.2.2, true), ints, cp) = (false, (w'.1, w'.2.1, w'.2.2, true), ints', cp') ∧ v_cpF (nI (a - b)) (nI a) grp (c + n) (nI k) (nI (c + e)) (w, ca, true, le) = (false, w', ca', true, le)) ∨
       (w'.1 = true ∧ m_mvI wi a b c k ((w.1, w.2.1, w.2.2, true), ints, cp) = (true, (w'.1, w'.2.1, w'.2.2, true), ints', cp + nI c) ∧
         v_cpF (nI (a - b)) (nI a) grp (c + n) (nI k) (nI (c + e)) (w, ca, true, le) = v_cpF (nI (a - b)) (nI a) grp n (nI (k + c)) (nI e) (w', ca', true, le)))
  | 0, k, e, n, w, ca, ints, cp, _, hw, hi, _ => by
    refine ⟨w, ca, ints, hi, Or.inr ⟨hw, ?_, ?_⟩⟩
    · rw [m_mvI, show nI 0 = (0 : Int32) from rfl, Int32.add_zero]
    · rw [Nat.zero_add, Nat.zero_add, Nat.add_zero]
  | c + 1, k, e, n, w, ca, ints, cp, hk, hw, hi, hce => by
    obtain ⟨h1, h2⟩ := t_w1t (wi := wi) hw
    have hc : ¬ nI (c + 1 + e) = 0 := nI_ne0 (by omega) hce
    have hc1 : nI (c + 1 + e) - 1 = nI (c + e) := by rw [show c + 1 + e = (c + e) + 1 by omega]; exact nI_pred _
    rw [m_mvI, show c + 1 + n = (c + n) + 1 by omega, v_cpF]
    simp only
    rw [h1, if_neg hc, hc1]
    simp only [v_wb]
    rw [t_r48 (n := len) (by omega) (by omega), nI_add, r_set_n _ _ (by omega) (by decide)]
    by_cases hp : (pw_write w).1 = false
    · simp only [if_pos hp]
      refine ⟨(pw_write w).2, ca, ints, hi, Or.inl ⟨by rw [h2, hp], cp, rfl, rfl⟩⟩
    · simp only [if_neg hp, Bool.true_eq_false, if_false]
      have hp1 : (pw_write w).2.1 = true := by rw [h2]; simpa using hp
      have hi2 : ∀ x, x < 48 → upd ca (a - b + k) (ca (a + k)) x = upd ints (a + k - b) (ints (a + k)) x := by
        rw [show a + k - b = a - b + k by omega, ← hi (a + k) (by omega)]
        exact t_upd48 hi _ _
      obtain ⟨w', ca', ints', g1, g2⟩ := t_inn hb hl grp le c (k + 1) e n (pw_write w).2 (upd ca (a - b + k) (ca (a + k))) (upd ints (a + k - b) (ints (a + k))) (cp + 1) (by omega) hp1 hi2 (by omega)
      rw [nI_succ] at g2
      refine ⟨w', ca', ints', g1, ?_⟩
      rcases g2 with ⟨g3, cp', g4, g5⟩ | ⟨g3, g4, g5⟩
      · exact Or.inl ⟨g3, cp', g4, g5⟩
      · refine Or.inr ⟨g3, ?_, ?_⟩
        · rw [g4, nI_succ, Int32.add_assoc, Int32.add_comm 1]
        · rw [g5, show k + 1 + c = k + (c + 1) by omega]
theorem t_led {to fr grp i : Int32} {n : Nat} {t : zT} (hg : ¬ grp = 0) : v_cpF to fr grp (n + 1) i 0 t = if (v_cpL t i).1 = false then (false, (v_cpL t i).2.1, t.2.1, (v_cpL t i).2.2) else v_cpF to fr grp (n + 1) i grp ((v_cpL t i).2.1, t.2.1, (v_cpL t i).2.2) := by
  rw [v_cpF, if_pos rfl, v_cpF, if_neg hg]
/-- where a move stands -/
def t_st (len : Nat) (sq : Bool) (le : Int32) (mo : Bool) (gr : Int32) : Prop := (mo = false ∧ le = -1) ∨ (mo = true ∧ sq = true ∧ ∃ g, g < len ∧ gr = nI g ∧ le = nI g)
theorem t_out {wi : Bool} {a b len g : Nat} {told : Int32} (hb1 : 1 ≤ b) (hb : b ≤ a) (hl : a + len ≤ 48) : ∀ (n p : Nat) (w : zP) (ca ints : zA) (sq mo : Bool) (le gr cp : Int32), len ≤ p + n → g ≤ p → w.1 = true → (∀ x, x < 48 → ca x = ints x) → (wi = true ∨ sq = true) → t_st len sq le mo gr → (¬ (g < p ∨ told = 0) → sq = true ∧ mo = true) →
    ∃ (w' : zP) (ca' ints' : zA) (sq' mo' : Bool) (le' gr' cp' : Int32), (∀ x, x < 48 → ca' x = ints' x) ∧ t_st len sq' le' mo' gr' ∧
      m_mvO wi a b len (m_mo b) g told n p ((w.1, w.2.1, w.2.2, sq), mo, gr, ints, cp) = (w'.1, (w'.1, w'.2.1, w'.2.2, sq'), mo', gr', ints', cp') ∧
      v_cpF (nI (a - b)) (nI a) (nI (m_mo b)) (len - p) (nI p) (if g < p ∨ told = 0 then 0 else nI (m_mo b)) (w, ca, sq, le) = (w'.1, w', ca', sq', le') ∧
      (w'.1 = true → cp' = cp + nI (len - p)) ∧ (p < len → w'.1 = true → sq' = true ∧ mo' = true) ∧ (wi = true ∨ sq' = true)
  | 0, p, w, ca, ints, sq, mo, le, gr, cp, hf, hg, hw, hi, hs, hst, _ => by
    refine ⟨w, ca, ints, sq, mo, le, gr, cp, hi, hst, ?_, ?_, fun _ => ?_, fun h => by omega, hs⟩
    · rw [m_mvO, hw]
    · rw [show len - p = 0 by omega, v_cpF, hw]
    · rw [show len - p = 0 by omega, show nI 0 = (0 : Int32) from rfl, Int32.add_zero]
  | n + 1, p, w, ca, ints, sq, mo, le, gr, cp, hf, hg, hw, hi, hs, hst, hno => by
    have hmo := m_mo_p hb1
    by_cases hlp : len ≤ p
    · refine ⟨w, ca, ints, sq, mo, le, gr, cp, hi, hst, ?_, ?_, fun _ => ?_, fun h => by omega, hs⟩
      · rw [m_mvO, if_pos hlp, hw]
      · rw [show len - p = 0 by omega, v_cpF, hw]
      · rw [show len - p = 0 by omega, show nI 0 = (0 : Int32) from rfl, Int32.add_zero]
    have hgrp : ¬ nI (m_mo b) = 0 := nI_ne0 (by omega) (by omega)
    -- a group, its ledger written or told
    have grp : ∀ (w : zP) (mo : Bool) (le gr : Int32), w.1 = true → mo = true → t_st len true le mo gr →
        ∃ (w' : zP) (ca' ints' : zA) (sq' mo' : Bool) (le' gr' cp' : Int32), (∀ x, x < 48 → ca' x = ints' x) ∧ t_st len sq' le' mo' gr' ∧
          m_mvB wi a b (m_mvE len (m_mo b) p - p) p ((w.1, w.2.1, w.2.2, true), mo, gr, ints, cp) (m_mvO wi a b len (m_mo b) g told n (p + m_mo b)) = (w'.1, (w'.1, w'.2.1, w'.2.2, sq'), mo', gr', ints', cp') ∧
          v_cpF (nI (a - b)) (nI a) (nI (m_mo b)) (len - p) (nI p) (nI (m_mo b)) (w, ca, true, le) = (w'.1, w', ca', sq', le') ∧
          (w'.1 = true → cp' = cp + nI (len - p)) ∧ (p < len → w'.1 = true → sq' = true ∧ mo' = true) ∧ (wi = true ∨ sq' = true) := by
      intro w mo le gr hw hmt hst
      obtain ⟨c, hc⟩ : ∃ c, c = m_mvE len (m_mo b) p - p := ⟨_, rfl⟩
      simp only [m_mvE] at hc
      have hc2 : c = min (m_mo b) (len - p) := by omega
      obtain ⟨w', ca', ints', g1, g2⟩ := t_inn (wi := wi) hb hl (nI (m_mo b)) le c p (m_mo b - c) (len - p - c) w ca ints cp (by omega) hw hi (by omega)
      rw [show c + (len - p - c) = len - p by omega, show c + (m_mo b - c) = m_mo b by omega] at g2
      simp only [m_mvE]
      rw [← hc]
      rcases g2 with ⟨g3, cp', g4, g5⟩ | ⟨g3, g4, g5⟩
      · refine ⟨w', ca', ints', true, mo, le, gr, cp', g1, hst, ?_, ?_, fun h => ?_, fun _ h => ?_, Or.inr rfl⟩
        · rw [m_mvB, g4]; simp only [if_true]; rw [g3]
        · rw [g5, g3]
        · rw [g3] at h; cases h
        · rw [g3] at h; cases h
      · have hstep : v_cpF (nI (a - b)) (nI a) (nI (m_mo b)) (len - p - c) (nI (p + c)) (nI (m_mo b - c)) (w', ca', true, le) = v_cpF (nI (a - b)) (nI a) (nI (m_mo b)) (len - (p + m_mo b)) (nI (p + m_mo b)) (if g < p + m_mo b ∨ told = 0 then 0 else nI (m_mo b)) (w', ca', true, le) := by
          by_cases h : p + m_mo b ≤ len
          · have h5 : c = m_mo b := by omega
            rw [h5, if_pos (Or.inl (by omega)), Nat.sub_self, show len - p - m_mo b = len - (p + m_mo b) by omega]; rfl
          · rw [show len - p - c = 0 by omega, show len - (p + m_mo b) = 0 by omega, v_cpF, v_cpF]
        have e1 : len ≤ p + m_mo b + n := by omega
        have e2 : g ≤ p + m_mo b := by omega
        have e3 : g < p + m_mo b := by omega
        obtain ⟨w2, ca2, ints2, sq2, mo2, le2, gr2, cp2, k1, k2, k3, k4, k5, k6, k7⟩ := t_out hb1 hb hl n (p + m_mo b) w' ca' ints' true mo le gr (cp + nI c) e1 e2 g3 g1 (Or.inr rfl) hst (fun h => absurd (Or.inl e3) h)
        refine ⟨w2, ca2, ints2, sq2, mo2, le2, gr2, cp2, k1, k2, ?_, ?_, fun h => ?_, fun h1 h2 => ?_, k7⟩
        · rw [m_mvB, g4]
          simp only [Bool.true_eq_false, if_false]
          exact k3
        · rw [g5, hstep]; exact k4
        · rw [k5 h, Int32.add_assoc, nI_add]; congr 2; omega
        · by_cases h : p + m_mo b < len
          · exact k6 h h2
          · have h5 : m_mvO wi a b len (m_mo b) g told n (p + m_mo b) ((w'.1, w'.2.1, w'.2.2, true), mo, gr, ints', cp + nI c) = (true, (w'.1, w'.2.1, w'.2.2, true), mo, gr, ints', cp + nI c) := by
              cases n with
              | zero => rw [m_mvO]
              | succ n => rw [m_mvO, if_pos (by omega)]
            rw [h5] at k3
            simp only [Prod.mk.injEq] at k3
            exact ⟨k3.2.1.2.2.2.symm, by rw [← k3.2.2.1, hmt]⟩
    by_cases hled : g < p ∨ told = 0
    · rw [if_pos hled, m_mvO, if_neg hlp, if_pos hled]
      obtain ⟨h1, h2⟩ := t_w1 (sq := sq) (wi := wi) hw
      simp only
      rw [h1, show len - p = (len - p - 1) + 1 by omega, t_led hgrp]
      simp only [v_wl]
      by_cases hp : (pw_write w).1 = false
      · simp only [if_pos hp, if_true]
        refine ⟨(pw_write w).2, ca, ints, sq, mo, le, gr, cp, hi, hst, ?_, ?_, fun h => ?_, fun _ h => ?_, hs⟩
        · rw [h2, hp]
        · rw [h2, hp]
        · rw [h2, hp] at h; cases h
        · rw [h2, hp] at h; cases h
      · simp only [if_neg hp, Bool.true_eq_false, if_false]
        have hp1 : (pw_write w).2.1 = true := by rw [h2]; simpa using hp
        have hsq : (sq || wi) = true := by
          rcases hs with hs | hs <;> rw [hs] <;> simp
        rw [hsq, show len - p - 1 + 1 = len - p by omega]
        obtain ⟨w2, ca2, ints2, sq2, mo2, le2, gr2, cp2, k⟩ := grp (pw_write w).2 true (nI p) (nI p) hp1 rfl (Or.inr ⟨rfl, rfl, p, by omega, rfl, rfl⟩)
        exact ⟨w2, ca2, ints2, sq2, mo2, le2, gr2, cp2, k⟩
    · obtain ⟨hs1, hm1⟩ := hno hled
      subst hs1
      rw [if_neg hled, m_mvO, if_neg hlp, if_neg hled]
      exact grp w mo le gr hw hm1 hst
