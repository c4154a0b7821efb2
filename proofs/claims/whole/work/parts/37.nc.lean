/-! questions of one world -/
section
variable {S : Nat → Int32} {R P : Nat} {hour broken rungs people : Int32} {rung grip want slips worn room strength weight told : Nat → Int32}
def WTs (P : Nat) (S : Nat → Int32) : Prop := ∀ p, p < P → ∃ w, 1 ≤ w ∧ w < 21 ∧ S (62 + 2 * p) = nn w
theorem p_isPerson (hI : IV R P S) (x : Int32) : (∃ p, p < P ∧ x = nn p ∧ f11_isPerson (nn P) x = some 1 ∧ f12_isPerson S x = some 1) ∨ (f11_isPerson (nn P) x = some 0 ∧ f12_isPerson S x = some 0) := by
  have hP4 := hI.1.2.1
  unfold f11_isPerson f12_isPerson
  rw [hI.1.2.2.2.1]
  by_cases h : x < 0
  · rw [if_pos h]; exact Or.inr ⟨rfl, rfl⟩
  · rw [if_neg h]
    by_cases h2 : nn P ≤ x
    · rw [if_pos h2]; exact Or.inr ⟨rfl, rfl⟩
    · rw [if_neg h2]
      obtain ⟨p, hp, e⟩ := nn_of_lt h (by omega) (Int32.not_le.mp h2)
      exact Or.inl ⟨p, hp, e, rfl, rfl⟩
theorem p_isRung (hI : IV R P S) (x : Int32) : (∃ r, r < R ∧ x = nn r ∧ f11_isRung (nn R) x = some 1 ∧ f12_isRung S x = some 1) ∨ ((¬ ∃ r, r < R ∧ x = nn r) ∧ f11_isRung (nn R) x = some 0 ∧ f12_isRung S x = some 0) := by
  have hR9 := hI.1.1
  unfold f11_isRung f12_isRung
  rw [hI.1.2.2.1]
  by_cases h : x < 0
  · rw [if_pos h]
    exact Or.inr ⟨by rintro ⟨r, hr, rfl⟩; exact nlt0 (by omega) h, rfl, rfl⟩
  · rw [if_neg h]
    by_cases h2 : nn R ≤ x
    · rw [if_pos h2]
      exact Or.inr ⟨by rintro ⟨r, hr, rfl⟩; exact nle (by omega) (by omega) (by omega) h2, rfl, rfl⟩
    · rw [if_neg h2]
      obtain ⟨p, hp, e⟩ := nn_of_lt h (by omega) (Int32.not_le.mp h2)
      exact Or.inl ⟨p, hp, e, rfl, rfl⟩
theorem p_has (hI : IV R P S) : (R = 0 ∧ f11_hasLadder (nn R) = some 0 ∧ f12_isLadder S = some 0) ∨ (0 < R ∧ f11_hasLadder (nn R) = some 1 ∧ f12_isLadder S = some 1) := by
  have hR9 := hI.1.1
  unfold f11_hasLadder f12_isLadder
  rw [hI.1.2.2.1]
  by_cases h : R = 0
  · subst h; exact Or.inl ⟨rfl, rfl, rfl⟩
  · have h9 : ¬ nn R ≤ (0 : Int32) := nle (b := 0) (by omega) (by omega) (by omega)
    rw [if_neg h9]
    exact Or.inr ⟨by omega, rfl, rfl⟩
theorem m_in {a : Int32} {lo hi : Nat} (hlo : lo < 2147483648) (hhi : hi < 2147483648) : f12_in (Int32.toInt64 a) (lN lo) (lN hi) = some (if a < nn lo then 0 else if nn hi < a then 0 else 1) := by
  have ha : (Int32.toInt64 a).toInt = a.toInt := Int32.toInt_toInt64 a
  have e1 : (Int32.toInt64 a < lN lo) = (a < nn lo) := by
    refine propext ?_
    rw [Int64.lt_iff_toInt_lt, Int32.lt_iff_toInt_lt, ha, pk_lT (by omega), nn_int hlo]
  have e2 : (lN hi < Int32.toInt64 a) = (nn hi < a) := by
    refine propext ?_
    rw [Int64.lt_iff_toInt_lt, Int32.lt_iff_toInt_lt, ha, pk_lT (by omega), nn_int hhi]
  unfold f12_in
  simp only [lgc_lt, lgc_gt, e1, e2]
  split
  · rfl
  · split <;> rfl
theorem toI_ne {a : Int32} {k : Nat} (hk : k < 2147483648) (h : ¬ a = nn k) : ¬ Int32.toInt a = (k : Int) := by
  intro h2
  exact h (Int32.toInt_inj.mp (h2.trans (nn_int hk).symm))
theorem r_person (hI : IV R P S) (hW : RWd S hour broken rung grip want slips worn) (hL : RLd R P S rungs people room strength weight told) (a1 a2 : Int32) : ∃ v, f11_person broken rung grip want slips rungs people weight a1 a2 = some v ∧ f12_person S a1 a2 = some v := by
  have hR9 := hI.1.1
  have hP4 := hI.1.2.1
  unfold f11_person f12_person
  rw [hL.2.1, hL.1]
  rcases p_isPerson hI a1 with ⟨p, hp, rfl, e1, e2⟩ | ⟨e1, e2⟩
  · have hp4 : p < 4 := by omega
    have hc0 : (nn p < 0 ∨ 4 ≤ p) = False := eq_false (ng (by omega) (by omega))
    rw [e1, e2, bnd1_s, bnd1_s, if_neg (show ¬ (1 : Int32) = 0 by decide), if_neg (show ¬ (1 : Int32) = 0 by decide), nn_nat (by omega), m_p0 hp4, m_weightOf hp4, m_p1 hp4, m_p2 hp4, m_p3 hp4, hW.2.2.1 p hp4, hL.2.2.2.2.1 p hp, hW.2.2.2.1 p hp4, hW.2.2.2.2.1 p hp4, hW.2.2.2.2.2.1 p hp4, c_beside hI.1.2.2.1 hR9 hW.2.1, c_beside hI.1.2.2.1 hR9 hW.2.1]
    simp only [hc0, if_false, lt_df, bnd1_s]
    rw [m_beside hI.1.2.2.1 hR9, m_beside hI.1.2.2.1 hR9]
    simp only [bnd1_s]
    repeat' (first | exact ⟨_, rfl, rfl⟩ | split)
  · rw [e1, e2]; exact ⟨-2, rfl, rfl⟩
theorem r_rung (hI : IV R P S) (hW : RWd S hour broken rung grip want slips worn) (hL : RLd R P S rungs people room strength weight told) (a1 a2 : Int32) : ∃ v, f11_rung broken rung worn rungs people room strength weight a1 a2 = some v ∧ f12_rung S a1 a2 = some v := by
  have hR9 := hI.1.1
  have hP4 := hI.1.2.1
  obtain ⟨b, hb, hbb, hbt⟩ := hW.2.1
  unfold f11_rung f12_rung
  rw [hL.2.1, hL.1]
  rcases p_isRung hI a1 with ⟨r, hr, rfl, e1, e2⟩ | ⟨-, e1, e2⟩
  · have hr9 : r < 9 := by omega
    have hc0 : (nn r < 0 ∨ 9 ≤ r) = False := eq_false (ng (by omega) (by omega))
    have hin := m_in (a := a2) (lo := 0) (hi := 5) (by decide) (by decide)
    have hin' : f12_in (Int32.toInt64 a2) (0 : Int64) (5 : Int64) = _ := hin
    rw [e1, e2, bnd1_s, bnd1_s, if_neg (show ¬ (1 : Int32) = 0 by decide), if_neg (show ¬ (1 : Int32) = 0 by decide), nn_nat (by omega), hin', bnd1_s, hL.2.2.1 r hr, hL.2.2.2.1 r hr, hW.2.2.2.2.2.2 r hr9, hbb, c_isBroken, ← hbt r hr9, c_whoIsOn hP4, c_weightOn hP4, whF_congr (g := rung) (g' := gR S) (fun p hp => hW.2.2.1 p (by omega)), wtF_congr (g := rung) (g' := gR S) (w := weight) (w' := gW S) (fun p hp => hW.2.2.1 p (by omega)) (fun p hp => hL.2.2.2.2.1 p hp), m_whoStands hI.1.2.2.2.1 hP4, m_weightOn hI.1.2.2.2.1 hP4]
    simp only [hc0, if_false, lt_df, bnd1_s]
    by_cases h0 : a2 = 0
    · subst h0; rw [m_r0 hr9]; exact ⟨_, rfl, rfl⟩
    · by_cases h1 : a2 = 1
      · subst h1; rw [m_r1 hr9]; exact ⟨_, rfl, rfl⟩
      · by_cases h2 : a2 = 2
        · subst h2; rw [m_r2 hr9]; exact ⟨_, rfl, rfl⟩
        · by_cases h3 : a2 = 3
          · subst h3
            rw [m_r3 hr9]
            rcases hI.1.2.2.2.2.1 r hr9 with h | h
            · rw [h]; exact ⟨0, rfl, rfl⟩
            · rw [h]; exact ⟨1, rfl, rfl⟩
          · by_cases h4 : a2 = 4
            · subst h4; exact ⟨_, rfl, rfl⟩
            · by_cases h5 : a2 = 5
              · subst h5; exact ⟨_, rfl, rfl⟩
              · have t0 : ¬ Int32.toInt a2 = 0 := toI_ne (k := 0) (by decide) h0
                have t1 : ¬ Int32.toInt a2 = 1 := toI_ne (k := 1) (by decide) h1
                have t2 : ¬ Int32.toInt a2 = 2 := toI_ne (k := 2) (by decide) h2
                have t3 : ¬ Int32.toInt a2 = 3 := toI_ne (k := 3) (by decide) h3
                have t4 : ¬ Int32.toInt a2 = 4 := toI_ne (k := 4) (by decide) h4
                have t5 : ¬ Int32.toInt a2 = 5 := toI_ne (k := 5) (by decide) h5
                refine ⟨-1, ?_, ?_⟩
                · rw [if_neg t0, if_neg t1, if_neg t2, if_neg t3, if_neg t4, if_neg t5]
                · by_cases c1 : a2 < nn 0
                  · rw [if_pos c1]; rfl
                  · rw [if_neg c1]
                    by_cases c2 : nn 5 < a2
                    · rw [if_pos c2]; rfl
                    · exfalso
                      obtain ⟨k, hk, rfl⟩ := nn_of' (x := a2) (by intro h; exact c1 h)
                      have : k < 6 := by
                        have := mt (fun h : 5 < k => nltT (a := 5) (b := k) (by omega) hk h) c2
                        omega
                      rcases (show k = 0 ∨ k = 1 ∨ k = 2 ∨ k = 3 ∨ k = 4 ∨ k = 5 by omega) with rfl | rfl | rfl | rfl | rfl | rfl
                      · exact h0 rfl
                      · exact h1 rfl
                      · exact h2 rfl
                      · exact h3 rfl
                      · exact h4 rfl
                      · exact h5 rfl
  · rw [e1, e2]; exact ⟨-1, rfl, rfl⟩
/-- the rung on which most stand -/
def capF (g : Nat → Int32) (P : Nat) : Nat → Int32 × Nat
  | 0 => (-1, 0)
  | k + 1 => if (capF g P k).2 < crF g (nn k) P then (nn k, crF g (nn k) P) else capF g P k
theorem capF_congr {g g' : Nat → Int32} {P : Nat} (h : ∀ p, p < P → g p = g' p) : ∀ k, capF g P k = capF g' P k
  | 0 => rfl
  | k + 1 => by simp only [capF]; rw [capF_congr h k, crF_congr h]
theorem capF_le (g : Nat → Int32) (P : Nat) : ∀ k, (capF g P k).2 ≤ P ∧ ((capF g P k).1 = -1 ∧ (capF g P k).2 = 0 ∨ ∃ r, r < k ∧ (capF g P k).1 = nn r ∧ 0 < (capF g P k).2)
  | 0 => ⟨Nat.zero_le _, Or.inl ⟨rfl, rfl⟩⟩
  | k + 1 => by
    obtain ⟨h1, h2⟩ := capF_le g P k
    simp only [capF]
    by_cases h : (capF g P k).2 < crF g (nn k) P
    · rw [if_pos h]; exact ⟨crF_le _ _ _, Or.inr ⟨k, by omega, rfl, by dsimp only; omega⟩⟩
    · rw [if_neg h]
      exact ⟨h1, h2.imp_right (fun ⟨r, a, b, c⟩ => ⟨r, by omega, b, c⟩)⟩
theorem c_fullest {g : Nat → Int32} (hR9 : R < 10) (hP4 : P < 5) : f10_fullestRung g (nn R) (nn P) = some (capF g P R).1 := by
  unfold f10_fullestRung
  rw [iter_for (s := ((-1 : Int32), (0 : Int32), (0 : Int32))) (st := fun k => ((capF g P k).1, nn (capF g P k).2, nn k)) (n := R) (out := (capF g P R).1) rfl (by omega) ?hs ?he]
  · rfl
  case hs =>
    intro k hk
    have hl := (capF_le g P k).1
    have hc := crF_le g (nn k) P
    unfold f10_fullestRung_B6
    dsimp only
    rw [if_neg (nle (by omega) (by omega) (by omega)), c_crowdOn hP4, bnd1_s]
    simp only [lt_df, nn_succ, capF]
    by_cases h : (capF g P k).2 < crF g (nn k) P
    · rw [if_pos h, if_neg (nle (by omega) (by omega) (by omega))]
    · rw [if_neg h, if_pos (nleT (by omega) (by omega) (by omega))]
  case he =>
    unfold f10_fullestRung_B6
    dsimp only
    rw [if_pos (Int32.le_refl _)]
theorem m_capital (h0 : S 0 = nn R) (hR9 : R < 10) (hP : S 1 = nn P) (hP4 : P < 5) : f12_capitalNow S = some (capF (gR S) P R).1 := by
  unfold f12_capitalNow
  rw [iter_for (s := ((-1 : Int32), (0 : Int32), (0 : Int32))) (st := fun k => ((capF (gR S) P k).1, nn (capF (gR S) P k).2, nn k)) (n := R) (out := (capF (gR S) P R).1) rfl (by omega) ?hs ?he]
  · rfl
  case hs =>
    intro k hk
    have hl := (capF_le (gR S) P k).1
    have hc := crF_le (gR S) (nn k) P
    unfold f12_capitalNow_B6
    dsimp only
    rw [h0, if_neg (nle (by omega) (by omega) (by omega)), m_standing hP hP4, bnd1_s, bnd1_s]
    simp only [lt_df, nn_succ, capF]
    by_cases h : (capF (gR S) P k).2 < crF (gR S) (nn k) P
    · rw [if_pos h, if_pos (nltT (by omega) (by omega) (by omega))]
    · rw [if_neg h, if_neg (nlt (by omega) (by omega) (by omega))]
  case he =>
    unfold f12_capitalNow_B6
    dsimp only
    rw [h0, if_pos (Int32.le_refl _)]
theorem r_capital (hI : IV R P S) (hW : RWd S hour broken rung grip want slips worn) (hL : RLd R P S rungs people room strength weight told) : ∃ v, f11_capital rung rungs people = some v ∧ f12_capital S = some v := by
  have hR9 := hI.1.1
  have hP4 := hI.1.2.1
  unfold f11_capital f12_capital
  rw [hL.1, hL.2.1, c_fullest hR9 hP4, capF_congr (g' := gR S) (fun p hp => hW.2.2.1 p (by omega)), m_capital hI.1.2.2.1 hR9 hI.1.2.2.2.1 hP4]
  rcases p_has hI with ⟨rfl, -, e⟩ | ⟨-, -, e⟩
  · rw [e]; exact ⟨-1, rfl, rfl⟩
  · rw [e]; exact ⟨_, rfl, rfl⟩
end
