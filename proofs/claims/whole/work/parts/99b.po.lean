/-! back: the wrapper -/
section
variable {S im imF imX imM : Nat → Int32} {hour broken fo x notes pc ud : Int32} {rung grip want slips worn nh nr nm : Nat → Int32}
variable {ifo ix ino imd ih ib : Int32} {inh inr inm ir ig iw is_ ik : Nat → Int32} {ims : Nat → Option Nat} {pa qi qn : Nat}
theorem r_back (a1 : Int32) (hpa : ∀ k, k < 4 → a1 = nn k → ims k = some pa ∧ imd = imM k ∧ (imd ≠ 0 → RWd (imS im k) ih ib ir ig iw is_ ik ∧ RNo (imS im k) ino inh inr inm ∧ ifo = imF k ∧ ix = imX k)) :
    (f11_back ims pc ifo ix ino inh inr inm imd ih ib ir ig iw is_ ik fo x notes nh nr nm hour broken rung grip want slips worn pa qn qi a1 = some (-1, pc, fo, x, notes, nh, nr, nm, hour, broken, rung, grip, want, slips, worn, qn) ∧ f12_back S fo x ud im imF imX imM a1 = some (-1, S, fo, x, ud)) ∨
    ∃ k nh' nr' nm' r' g' w' s' k', k < 4 ∧ a1 = nn k ∧ imd ≠ 0 ∧ f11_back ims pc ifo ix ino inh inr inm imd ih ib ir ig iw is_ ik fo x notes nh nr nm hour broken rung grip want slips worn pa qn qi a1 = some (ih, 0, ifo, ix, ino, nh', nr', nm', ih, ib, r', g', w', s', k', qi) ∧ f12_back S fo x ud im imF imX imM a1 = some (ih, ov 110 (imS im k) S, ifo, ix, 0) ∧ RWd (ov 110 (imS im k) S) ih ib r' g' w' s' k' ∧ RNo (ov 110 (imS im k) S) ino nh' nr' nm' ∧ Lo (imS im k) (ov 110 (imS im k) S) := by
  have i1 : f12_in (Int32.toInt64 a1) (0 : Int64) (3 : Int64) = _ := m_in (a := a1) (lo := 0) (hi := 3) (by decide) (by decide)
  unfold f11_back f12_back
  rw [i1, bnd1_s]
  by_cases c1 : a1 < 0
  · rw [if_pos c1, if_pos (show a1 < nn 0 from c1), if_pos rfl]
    exact Or.inl ⟨rfl, rfl⟩
  · rw [if_neg c1, if_neg (show ¬ a1 < nn 0 from c1)]
    by_cases c2 : nn 3 < a1
    · rw [if_pos c2, if_pos rfl, if_pos (show 4 ≤ a1 from by
        rw [Int32.le_iff_toInt_le]
        have h2 := Int32.lt_iff_toInt_lt.mp c2
        have e1 : (4 : Int32).toInt = 4 := rfl
        have e2 : (nn 3).toInt = 3 := rfl
        omega)]
      exact Or.inl ⟨rfl, rfl⟩
    · obtain ⟨k, -, hk, rfl⟩ := nn_rng (x := a1) (lo := 0) (hi := 3) (by decide) (by decide) c1 c2
      have hk4 : k < 4 := by omega
      have g1 : ¬ (nn k < 0 ∨ 4 ≤ (nn k).toNatClampNeg) := fun h => by
        rw [nn_nat (by omega)] at h
        rcases h with h | h
        · exact nlt0 (by omega) h
        · omega
      obtain ⟨hp, hm, hr⟩ := hpa k hk4 rfl
      have hp' : ims (nn k).toNatClampNeg = some pa := by rw [nn_nat (by omega)]; exact hp
      have hm' : imM (nn k).toNatClampNeg = imd := by rw [nn_nat (by omega)]; exact hm.symm
      have hlo : Lo (imS im k) (ov 110 (imS im k) S) := fun i hi => ov_lt (by omega)
      rw [if_neg (show ¬ (4 : Int32) ≤ nn k by rw [show (4 : Int32) = nn 4 from rfl]; exact nle (a := 4) (b := k) (by omega) (by omega) (by omega)), if_neg g1, if_neg (fun h => h hp'), if_neg c2, if_neg (show ¬ (1 : Int32) = 0 by decide), if_neg g1, if_neg g1, hm']
      by_cases h0 : imd = 0
      · rw [if_pos h0, if_pos h0]
        exact Or.inl ⟨rfl, rfl⟩
      · obtain ⟨hW, hN, hf, hx⟩ := hr h0
        obtain ⟨n, hn, rfl, h9, hx9⟩ := hN
        have hf' : imF (nn k).toNatClampNeg = ifo := by rw [nn_nat (by omega)]; exact hf.symm
        have hx' : imX (nn k).toNatClampNeg = ix := by rw [nn_nat (by omega)]; exact hx.symm
        refine Or.inr ⟨k, va_cpy inh nh 0 0 10, va_cpy inr nr 0 0 10, va_cpy inm nm 0 0 10, va_cpy ir rung 0 0 4, va_cpy ig grip 0 0 4, va_cpy iw want 0 0 4, va_cpy is_ slips 0 0 4, va_cpy ik worn 0 0 9, hk4, rfl, h0, ?_, ?_, (RWd.copy hW).lo hlo, ⟨n, hn, rfl, by rw [ov_lt (by omega)]; exact h9, fun i hi => ?_⟩, hlo⟩
        · rw [if_neg h0, if_neg (fun h => h hp')]
          unfold f8_copyFrom
          rw [c_copyFrom, bnd7_s, lt_df, lt_df, lt_df, bnd13_s]
        · rw [if_neg h0, if_neg g1, lt_df, if_neg g1, lt_df, m_back hk4, bnd1_s, lt_df, hf', hx', ov_lt (by omega), hW.1]
        · have h8 := hx9 i hi
          rw [cpy_at (by omega), cpy_at (by omega), cpy_at (by omega), ov_lt (by omega), ov_lt (by omega), ov_lt (by omega)]
          exact h8
end
