/-! image: the wrapper -/
section
variable {S im imF imX imM : Nat → Int32} {hour broken fo x notes : Int32} {rung grip want slips worn nh nr nm : Nat → Int32}
variable {ifo ix ino imd ih ib : Int32} {inh inr inm ir ig iw is_ ik : Nat → Int32} {ims : Nat → Option Nat} {pa qi qn : Nat}
theorem r_image (hW : RWd S hour broken rung grip want slips worn) (hN : RNo S notes nh nr nm) (a1 : Int32) (hpa : ∀ k, k < 4 → a1 = nn k → ims k = some pa) :
    (f11_image ims ifo ix ino inh inr inm imd ih ib ir ig iw is_ ik fo x notes nh nr nm hour broken rung grip want slips worn pa qi qn a1 = some (-1, ifo, ix, ino, inh, inr, inm, imd, ih, ib, ir, ig, iw, is_, ik, qi) ∧ f12_image S fo x im imF imX imM a1 = some (-1, im, imF, imX, imM)) ∨
    ∃ k nh' nr' nm' r' g' w' s' k', k < 4 ∧ a1 = nn k ∧ f11_image ims ifo ix ino inh inr inm imd ih ib ir ig iw is_ ik fo x notes nh nr nm hour broken rung grip want slips worn pa qi qn a1 = some (hour, fo, x, notes, nh', nr', nm', 1, hour, broken, r', g', w', s', k', qn) ∧ f12_image S fo x im imF imX imM a1 = some (hour, imP S im k 110, upd imF k fo, upd imX k x, upd imM k 1) ∧ RWd S hour broken r' g' w' s' k' ∧ RNo S notes nh' nr' nm' := by
  have i1 : f12_in (Int32.toInt64 a1) (0 : Int64) (3 : Int64) = _ := m_in (a := a1) (lo := 0) (hi := 3) (by decide) (by decide)
  unfold f11_image f12_image
  rw [i1, bnd1_s]
  by_cases c1 : a1 < 0
  · rw [if_pos c1, if_pos (show a1 < nn 0 from c1), if_pos rfl]
    exact Or.inl ⟨rfl, rfl⟩
  · rw [if_neg c1, if_neg (show ¬ a1 < nn 0 from c1)]
    by_cases c2 : nn 3 < a1
    · rw [if_pos c2, if_pos rfl, if_neg (show ¬ a1 < 4 from fun h => by
        have h1 := Int32.lt_iff_toInt_lt.mp h
        have h2 := Int32.lt_iff_toInt_lt.mp c2
        have e1 : (4 : Int32).toInt = 4 := rfl
        have e2 : (nn 3).toInt = 3 := rfl
        omega)]
      exact Or.inl ⟨rfl, rfl⟩
    · obtain ⟨k, -, hk, rfl⟩ := nn_rng (x := a1) (lo := 0) (hi := 3) (by decide) (by decide) c1 c2
      have hk4 : k < 4 := by omega
      have g1 : ¬ (nn k < 0 ∨ 4 ≤ (nn k).toNatClampNeg) := fun h => by
        rw [nn_nat (by omega)] at h
        rcases h with h | h
        · exact nlt0 (by omega) h
        · omega
      have hp := hpa k hk4 rfl
      obtain ⟨n, hn, rfl, h9, hx⟩ := hN
      refine Or.inr ⟨k, va_cpy nh inh 0 0 10, va_cpy nr inr 0 0 10, va_cpy nm inm 0 0 10, va_cpy rung ir 0 0 4, va_cpy grip ig 0 0 4, va_cpy want iw 0 0 4, va_cpy slips is_ 0 0 4, va_cpy worn ik 0 0 9, hk4, rfl, ?_, ?_, RWd.copy hW, n, hn, rfl, h9, fun i hi => ?_⟩
      · rw [if_pos (show nn k < 4 by rw [show (4 : Int32) = nn 4 from rfl, nn_lt (by omega) (by omega)]; exact hk4), if_neg g1, nn_nat (by omega), if_neg (fun h => h hp)]
        unfold f8_copyFrom
        rw [c_copyFrom, bnd7_s, lt_df, lt_df, lt_df, bnd13_s, if_neg (by rw [nn_nat (by omega)] at g1; exact g1), if_neg (fun h => h hp)]
      · rw [if_neg c2, if_neg (show ¬ (1 : Int32) = 0 by decide), if_neg g1, lt_df, if_neg g1, lt_df, if_neg g1, lt_df, m_image hk4, bnd1_s, lt_df, nn_nat (by omega), ← hW.1]
        rfl
      · have hx9 := hx i hi
        rw [cpy_at (by omega), cpy_at (by omega), cpy_at (by omega)]
        exact hx9
end
