/-! standing, counting -/
section
variable {S : Nat → Int32} {R P : Nat} {hour broken rungs people : Int32} {rung grip want slips worn room strength weight told : Nat → Int32}
theorem wtF_nn {g w : Nat → Int32} {x : Int32} : ∀ {k : Nat}, (∀ p, p < k → ∃ m, m < 21 ∧ w p = nn m) → ∃ m, m ≤ 20 * k ∧ wtF g w x k = nn m
  | 0, _ => ⟨0, Nat.le_refl _, rfl⟩
  | k + 1, h => by
    obtain ⟨m, hm, e⟩ := wtF_nn (g := g) (w := w) (x := x) (k := k) (fun p hp => h p (by omega))
    obtain ⟨v, hv, ev⟩ := h k (by omega)
    simp only [wtF]
    by_cases h2 : g k = x
    · rw [if_pos h2, e, ev, nn_add]; exact ⟨m + v, by omega, rfl⟩
    · rw [if_neg h2, e]; exact ⟨m, by omega, Int32.add_zero _⟩
theorem st_one {l m : Nat} (hl : 0 < l) (hlm : l ≤ m) (hm : m < 1000) : (nn l + nn m - 1) / nn m = 1 := by
  have e : nn l + nn m - 1 = nn (l + m - 1) := by
    rw [nn_add]
    obtain ⟨q, hq⟩ : ∃ q, l + m = q + 1 := ⟨l + m - 1, by omega⟩
    rw [hq, ← nn_succ, Int32.add_sub_cancel, Nat.add_sub_cancel]
  have h2 : nn (l + m - 1) / nn m = nn ((l + m - 1) / m) := pk_div (by omega) (by omega) (by omega)
  rw [e, h2]
  have : (l + m - 1) / m = 1 := by
    have : l + m - 1 = (l - 1) + 1 * m := by omega
    rw [this, Nat.add_mul_div_right _ _ (by omega), Nat.div_eq_of_lt (by omega)]
  rw [this]; rfl
theorem r_stand (hI : IV R P S) (hW : RWd S hour broken rung grip want slips worn) (hL : RLd R P S rungs people room strength weight told) (hT : WTs P S) (a1 a2 : Int32) : ∃ v, f11_stand broken rung worn rungs people strength weight a1 a2 = some v ∧ f12_stand S a1 a2 = some v := by
  have hR9 := hI.1.1
  have hP4 := hI.1.2.1
  obtain ⟨b, hb, hbb, hbt⟩ := hW.2.1
  unfold f11_stand f12_stand
  rw [m_isWhole hI.1.2.2.1 hR9, hL.1]
  rcases p_isRung hI a1 with ⟨r, hr, rfl, e1, -⟩ | ⟨h0, e1, -⟩
  · have hr9 : r < 9 := by omega
    rw [e1, hbb, c_isBroken, bnd1_s, bnd1_s, bnd1_s, if_neg (show ¬ (1 : Int32) = 0 by decide)]
    by_cases hw : S (13 + 4 * r) = 0
    · have h1 : sWh S (nn r) = true := (sWh_iff hI.1.2.2.1 hR9).mpr ⟨r, hr, rfl, hw⟩
      have hin : f12_in (Int32.toInt64 a2) (1 : Int64) (20 : Int64) = _ := m_in (a := a2) (lo := 1) (hi := 20) (by decide) (by decide)
      rw [if_pos h1, ← hbt r hr9, hw, if_pos rfl, if_pos rfl, hin, bnd1_s, if_neg (show ¬ (1 : Int32) = 0 by decide)]
      by_cases c1 : a2 < 1
      · rw [if_pos c1, if_pos (show a2 < nn 1 from c1), if_pos rfl]; exact ⟨_, rfl, rfl⟩
      · rw [if_neg c1, if_neg (show ¬ a2 < nn 1 from c1)]
        by_cases c2 : a2 ≤ 20
        · rw [if_pos c2, if_neg (show ¬ nn 20 < a2 from Int32.not_lt.mpr c2), if_neg (show ¬ (1 : Int32) = 0 by decide)]
          obtain ⟨m, hm, em⟩ := wtF_nn (g := gR S) (w := gW S) (x := nn r) (k := P) (fun p hp => by
            obtain ⟨w, -, h2, h3⟩ := hT p hp; exact ⟨w, h2, h3⟩)
          obtain ⟨a, ha, ea⟩ := nn_of' (x := a2) (fun h => c1 (Int32.lt_trans h (by decide)))
          have ha1 : 1 ≤ a := by
            rcases Nat.lt_or_ge a 1 with h | h
            · exact absurd (show a2 < 1 by rw [ea]; exact nltT (b := 1) (by omega) (by omega) h) c1
            · exact h
          have ha20 : a ≤ 20 := by
            rcases Nat.lt_or_ge 20 a with h | h
            · exact absurd c2 (by rw [ea]; exact nle (b := 20) (by omega) (by omega) (by omega))
            · exact h
          unfold f10_hoursBorne
          rw [hL.2.1, c_weightOn hP4, wtF_congr (g := rung) (g' := gR S) (w := weight) (w' := gW S) (fun p hp => hW.2.2.1 p (by omega)) (fun p hp => hL.2.2.2.2.1 p hp), m_weightOn hI.1.2.2.2.1 hP4, em, ea, bnd1_s, bnd1_s]
          simp only [lt_df, nn_add]
          rw [m_r1 hr9, bnd1_s, m_r2 hr9, bnd1_s, nn_nat (show r < 2147483648 by omega)]
          rw [if_neg (ng (by omega) (by omega)), if_neg (ng (by omega) (by omega)), hL.2.2.2.1 r hr, hW.2.2.2.2.2.2 r hr9, if_neg (show ¬ nn (a + m) ≤ 0 from nle (b := 0) (by omega) (by omega) (by omega))]
          have hz : ¬ nn (a + m) = 0 := nne (b := 0) (by omega) (by omega) (by omega)
          rw [if_neg hz]
          generalize S (11 + 4 * r) - S (12 + 4 * r) = L
          by_cases hl : 0 < L
          · rw [if_pos hl]
            by_cases hlm : nn (a + m) < L
            · rw [if_pos hlm]; exact ⟨_, rfl, rfl⟩
            · rw [if_neg hlm]
              obtain ⟨l, hl2, rfl⟩ := nn_of' (x := L) (fun h => absurd (Int32.lt_trans h hl) (Int32.lt_irrefl))
              have h1l : 0 < l := by
                rcases Nat.eq_zero_or_pos l with h | h
                · subst h; exact absurd hl (by decide)
                · exact h
              have hle : l ≤ a + m := by
                rcases Nat.lt_or_ge (a + m) l with h | h
                · exact absurd (nltT (by omega) hl2 h) hlm
                · exact h
              rw [st_one h1l hle (by omega)]; exact ⟨1, rfl, rfl⟩
          · have hlm : ¬ nn (a + m) < L := fun h => hl (by
              exact Int32.lt_trans (show (0 : Int32) < nn (a + m) from nltT (a := 0) (by omega) (by omega) (by omega)) h)
            rw [if_neg hl, if_neg hlm]; exact ⟨1, rfl, rfl⟩
        · rw [if_neg c2, if_pos (show nn 20 < a2 from Int32.not_le.mp c2), if_pos rfl]; exact ⟨_, rfl, rfl⟩
    · have h1 : ¬ sWh S (nn r) = true := fun h => by
        obtain ⟨q, hq, e, h2⟩ := (sWh_iff hI.1.2.2.1 hR9).mp h
        have := nn_inj (by omega) (by omega) e
        subst this; exact hw h2
      rw [if_neg h1, ← hbt r hr9, if_neg hw, if_neg (show ¬ (1 : Int32) = 0 by decide), if_pos rfl]; exact ⟨_, rfl, rfl⟩
  · have h1 : ¬ sWh S a1 = true := fun h => by
      obtain ⟨q, hq, e, -⟩ := (sWh_iff hI.1.2.2.1 hR9).mp h
      exact h0 ⟨q, hq, e⟩
    rw [e1, if_neg h1, bnd1_s, bnd1_s, if_pos rfl, if_pos rfl]; exact ⟨_, rfl, rfl⟩
theorem r_force {rc force : Int32} {N : Nat} (hN : N < 7) (hrc : rc = nn N) (a1 : Int32) : ∃ v f', f11_force rc force a1 = some (v, f') ∧ f12_force rc force a1 = some (v, f') := by
  subst hrc
  unfold f11_force f12_force f12_force_J16 f12_isRule
  by_cases h : a1 = -1
  · subst h
    rw [if_neg (by decide), if_pos (show (-1 : Int32) < nn N from m1lt (by omega)), if_pos rfl]; exact ⟨_, _, rfl, rfl⟩
  · rw [if_neg h]
    by_cases h2 : a1 < 0
    · have h3 : a1 < -1 := by
        rw [Int32.lt_iff_toInt_lt] at h2 ⊢
        have : ¬ a1.toInt = (-1 : Int32).toInt := fun e => h (Int32.toInt_inj.mp e)
        have e1 : (-1 : Int32).toInt = -1 := rfl
        have e0 : (0 : Int32).toInt = 0 := rfl
        omega
      rw [if_pos h3, if_pos h2]; exact ⟨_, _, rfl, rfl⟩
    · have h3 : ¬ a1 < -1 := fun h3 => h2 (Int32.lt_trans h3 (by decide))
      rw [if_neg h3, if_neg h2]
      by_cases h4 : a1 < nn N
      · rw [if_pos h4, if_neg (show ¬ nn N ≤ a1 from Int32.not_le.mpr h4)]; exact ⟨_, _, rfl, rfl⟩
      · rw [if_neg h4, if_pos (show nn N ≤ a1 from Int32.not_lt.mp h4)]; exact ⟨_, _, rfl, rfl⟩
end
