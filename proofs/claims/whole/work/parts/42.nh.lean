/-! remember, undo -/
section
variable {S S' w : Nat → Int32} {R P : Nat} {hour broken rungs people : Int32} {rung grip want slips worn room strength weight told : Nat → Int32} {ph pb : Nat → Int32} {pr pg pw ps pk : Nat → Nat → Int32}
theorem sl_up {nx c i : Nat} (hc : c < 20) (hn : nx < 20) (hi : i < c) : sl (if 19 ≤ nx then 0 else nx + 1) (c + 1) i = sl nx c i ∧ sl nx c i ≠ nx := by
  unfold sl
  by_cases h : 19 ≤ nx
  · rw [if_pos h]
    by_cases h2 : c ≤ nx + i
    · rw [if_pos h2, if_neg (by omega)]; exact ⟨by omega, by omega⟩
    · rw [if_neg h2, if_neg (by omega)]; exact ⟨by omega, by omega⟩
  · rw [if_neg h]
    by_cases h2 : c ≤ nx + i
    · rw [if_pos h2, if_pos (by omega)]; exact ⟨by omega, by omega⟩
    · rw [if_neg h2, if_neg (by omega)]; exact ⟨by omega, by omega⟩
theorem sl_top {nx c : Nat} (hc : c < 20) (hn : nx < 20) : sl (if 19 ≤ nx then 0 else nx + 1) (c + 1) c = nx := by
  unfold sl
  by_cases h : 19 ≤ nx
  · rw [if_pos h, if_neg (by omega)]; omega
  · rw [if_neg h, if_pos (by omega)]; omega
theorem sl_full {nx i : Nat} (hn : nx < 20) (hi : i < 19) : sl (if 19 ≤ nx then 0 else nx + 1) 20 i = sl nx 20 (i + 1) ∧ sl nx 20 (i + 1) ≠ nx := by
  unfold sl
  by_cases h : 19 ≤ nx
  · rw [if_pos h, if_neg (by omega), if_pos (by omega)]; exact ⟨by omega, by omega⟩
  · rw [if_neg h]
    by_cases h2 : 20 ≤ nx + (i + 1)
    · rw [if_pos h2, if_pos (by omega)]; exact ⟨by omega, by omega⟩
    · rw [if_neg h2, if_neg (by omega)]; exact ⟨by omega, by omega⟩
theorem sl_dn {nx c i : Nat} (hn : nx < 20) (hi : i < c) (hc : c + 1 < 21) : sl (if nx ≤ 0 then 19 else nx - 1) c i = sl nx (c + 1) i := by
  unfold sl
  by_cases h : nx ≤ 0
  · rw [if_pos h, if_pos (by omega), if_neg (by omega)]; omega
  · rw [if_neg h]
    by_cases h2 : c + 1 ≤ nx + i
    · rw [if_pos h2, if_pos (by omega)]; omega
    · rw [if_neg h2, if_neg (by omega)]; omega
theorem sl_last {nx c : Nat} (hn : nx < 20) (hc : c + 1 < 21) : sl nx (c + 1) c = if nx ≤ 0 then 19 else nx - 1 := by
  unfold sl
  by_cases h : nx ≤ 0
  · rw [if_pos h, if_neg (by omega)]; omega
  · rw [if_neg h, if_pos (by omega)]; omega
theorem r_remember {c nx pa : Nat} {pst : Nat → Option Nat} (hN : RPa R P S w c nx ph pb pr pg pw ps pk) (hI : IV R P S) (hW : RWd S hour broken rung grip want slips worn) (hp : pst nx = some pa) : ∃ w' c' nx', (nx' = (if 19 ≤ nx then 0 else nx + 1) ∧ ((c < 20 ∧ c' = c + 1) ∨ (c = 20 ∧ c' = 20))) ∧ f11_remember pst (nn nx) (nn c) hour broken rung grip want slips worn (ph nx) (pb nx) (pr nx) (pg nx) (pw nx) (ps nx) (pk nx) pa = some (nn nx', nn c', hour, broken, va_cpy rung (pr nx) 0 0 4, va_cpy grip (pg nx) 0 0 4, va_cpy want (pw nx) 0 0 4, va_cpy slips (ps nx) 0 0 4, va_cpy worn (pk nx) 0 0 9) ∧ f12_keepsAct S w (nn c) = some (w', nn c') ∧ RPa R P S w' c' nx' (upd ph nx hour) (upd pb nx broken) (updF pr nx (va_cpy rung (pr nx) 0 0 4)) (updF pg nx (va_cpy grip (pg nx) 0 0 4)) (updF pw nx (va_cpy want (pw nx) 0 0 4)) (updF ps nx (va_cpy slips (ps nx) 0 0 4)) (updF pk nx (va_cpy worn (pk nx) 0 0 9)) := by
  obtain ⟨hc, hn, hE⟩ := hN
  obtain ⟨w', c', e1, hw⟩ := m_keepsAct (S := S) (w := w) hc
  have hmin : (if nn c + 1 < (20 : Int32) then nn c + 1 else 20) = nn c' := by
    rw [nn_succ]
    rcases hw with ⟨h1, rfl, -⟩ | ⟨rfl, rfl, -⟩
    · by_cases h : c + 1 < 20
      · rw [if_pos (show nn (c + 1) < 20 from nltT (b := 20) (by omega) (by omega) h)]
      · rw [if_neg (show ¬ nn (c + 1) < 20 from nlt (b := 20) (by omega) (by omega) h)]
        have : c + 1 = 20 := by omega
        rw [this]; rfl
    · rw [if_neg (by decide)]; rfl
  refine ⟨w', c', _, ⟨rfl, hw.imp (fun h => ⟨h.1, h.2.1⟩) (fun h => ⟨h.1, h.2.1⟩)⟩, ?_, e1, ?_⟩
  · unfold f11_remember f11_remember_J39
    rw [nn_nat (show nx < 2147483648 by omega), if_neg (ng (by omega) (by omega)), hp, if_neg (fun h => h rfl), c_copyFrom, bnd7_s, hmin]
    simp only [lt_df]
    by_cases h : 19 ≤ nx
    · rw [if_pos (show (19 : Int32) ≤ nn nx from nleT (a := 19) (by omega) (by omega) h), if_pos h]; rfl
    · rw [if_neg (show ¬ (19 : Int32) ≤ nn nx from nle (a := 19) (by omega) (by omega) h), if_neg h, nn_succ]
  · have hself : ∀ i, (∀ k, k < 62 → En w' i k = S k) → IV R P (ov 62 (En w' i) S) ∧ St S (ov 62 (En w' i) S) ∧ RWd (ov 62 (En w' i) S) hour broken (va_cpy rung (pr nx) 0 0 4) (va_cpy grip (pg nx) 0 0 4) (va_cpy want (pw nx) 0 0 4) (va_cpy slips (ps nx) 0 0 4) (va_cpy worn (pk nx) 0 0 9) := by
      intro i h
      rw [ov_self h]
      exact ⟨hI, St.rf, hW.copy⟩
    have hold : ∀ i j, (∀ k, k < 62 → En w' i k = En w j k) → ov 62 (En w' i) S = ov 62 (En w j) S := fun i j h => ov_eq h (fun _ _ => rfl)
    rcases hw with ⟨h1, rfl, h2, h3⟩ | ⟨rfl, rfl, h2, h3⟩
    · refine ⟨by omega, by split <;> omega, fun i hi => ?_⟩
      by_cases e : i = c
      · subst e
        rw [sl_top h1 hn, upd_at, upd_at, updF_at, updF_at, updF_at, updF_at, updF_at]
        exact hself _ h3
      · obtain ⟨s1, s2⟩ := sl_up (nx := nx) (c := c) (i := i) h1 hn (by omega)
        rw [s1, upd_ne s2, upd_ne s2, updF_ne s2, updF_ne s2, updF_ne s2, updF_ne s2, updF_ne s2, hold i i (h2 i (by omega))]
        exact hE i (by omega)
    · refine ⟨by omega, by split <;> omega, fun i hi => ?_⟩
      by_cases e : i = 19
      · subst e
        rw [sl_top (by decide) hn, upd_at, upd_at, updF_at, updF_at, updF_at, updF_at, updF_at]
        exact hself _ h3
      · obtain ⟨s1, s2⟩ := sl_full (nx := nx) (i := i) hn (by omega)
        rw [s1, upd_ne s2, upd_ne s2, updF_ne s2, updF_ne s2, updF_ne s2, updF_ne s2, updF_ne s2, hold i (i + 1) (h2 i (by omega))]
        exact hE (i + 1) (by omega)
theorem m_undo {c : Nat} (hc : c + 1 < 21) : f12_undo S w (nn (c + 1)) = some (nn c, ov 62 (En w c) S, nn c) := by
  unfold f12_undo
  have e : nn (c + 1) - 1 = nn c := by rw [← nn_succ, Int32.add_sub_cancel]
  rw [if_neg (show ¬ nn (c + 1) = 0 from nne (b := 0) (by omega) (by omega) (by omega)), e, lt_df]
  rw [iter_for (s := (S, (0 : Int32))) (st := fun k => (ov k (En w c) S, nn k)) (n := 62) (out := ov 62 (En w c) S) (Prod.ext (ov_0 (f := En w c)) rfl) (by omega) ?hs ?he]
  · rw [bnd1_s]
  case hs =>
    intro k hk
    have hi : (62 : Int32) * nn c + nn k = nn (62 * c + k) := by rw [show (62 : Int32) = nn 62 from rfl, nn_mul, nn_add]
    unfold f12_undo_B21
    dsimp only
    rw [if_neg (show ¬ (62 : Int32) ≤ nn k from nle (a := 62) (by omega) (by omega) (by omega)), hi, nn_nat (show k < 2147483648 by omega), nn_nat (show 62 * c + k < 2147483648 by omega), if_neg (ng (by omega) (by omega)), lt_df, if_neg (ng (by omega) (by omega))]
    simp only [lt_df, nn_succ]
    rw [show w (62 * c + k) = En w c k from rfl, ov_upd]
  case he =>
    unfold f12_undo_B21
    dsimp only
    rw [if_pos (by decide)]
theorem r_undo {c nx pa qn qp : Nat} {pst : Nat → Option Nat} (hN : RPa R P S w c nx ph pb pr pg pw ps pk) (hI : IV R P S) (hW : RWd S hour broken rung grip want slips worn) (hp : pst (if nx ≤ 0 then 19 else nx - 1) = some pa) : ∃ v nx' c' h1 b1 r1 g1 w1 s1 k1 q1 S', f11_undo pst (nn nx) (nn c) hour broken rung grip want slips worn (ph (if nx ≤ 0 then 19 else nx - 1)) (pb (if nx ≤ 0 then 19 else nx - 1)) (pr (if nx ≤ 0 then 19 else nx - 1)) (pg (if nx ≤ 0 then 19 else nx - 1)) (pw (if nx ≤ 0 then 19 else nx - 1)) (ps (if nx ≤ 0 then 19 else nx - 1)) (pk (if nx ≤ 0 then 19 else nx - 1)) pa qn qp = some (v, nn nx', nn c', h1, b1, r1, g1, w1, s1, k1, q1) ∧ f12_undo S w (nn c) = some (v, S', nn c') ∧ RWd S' h1 b1 r1 g1 w1 s1 k1 ∧ IV R P S' ∧ St S S' ∧ RPa R P S' w c' nx' ph pb pr pg pw ps pk ∧ (q1 = qn ∨ q1 = qp) := by
  have hN2 := hN
  obtain ⟨hc, hn, hE⟩ := hN
  rcases c with _ | c
  · refine ⟨-1, nx, 0, hour, broken, rung, grip, want, slips, worn, qn, S, ?_, rfl, hW, hI, St.rf, hN2, Or.inl rfl⟩
    rfl
  · have hE2 := hE c (by omega)
    rw [sl_last hn hc] at hE2
    obtain ⟨i1, i2, i3⟩ := hE2
    refine ⟨nn c, (if nx ≤ 0 then 19 else nx - 1), c, _, _, _, _, _, _, _, qp, _, ?_, m_undo hc, i3.copy (r0 := rung) (g0 := grip) (w0 := want) (s0 := slips) (k0 := worn), i1, i2, ?_, Or.inr rfl⟩
    · have e : nn (c + 1) - 1 = nn c := by rw [← nn_succ, Int32.add_sub_cancel]
      unfold f11_undo f11_undo_J38
      rw [if_pos (show (0 : Int32) < nn (c + 1) from nltT (a := 0) (by omega) (by omega) (by omega)), e, lt_df]
      by_cases h : nx ≤ 0
      · rw [if_pos (show nn nx ≤ 0 from nleT (b := 0) (by omega) (by omega) h)]
        rw [if_pos h] at hp
        simp only [if_pos h]
        rw [show Int32.toNatClampNeg (19 : Int32) = 19 from rfl, if_neg (by decide), hp, if_neg (fun h => h rfl), c_copyFrom, bnd7_s]
        rfl
      · have e2 : nn nx - 1 = nn (nx - 1) := by
          obtain ⟨q, rfl⟩ : ∃ q, nx = q + 1 := ⟨nx - 1, by omega⟩
          rw [← nn_succ, Int32.add_sub_cancel]; rfl
        rw [if_neg (show ¬ nn nx ≤ 0 from nle (b := 0) (by omega) (by omega) h), e2, nn_nat (show nx - 1 < 2147483648 by omega)]
        rw [if_neg h] at hp
        simp only [if_neg h]
        rw [if_neg (ng (by omega) (by omega)), hp, if_neg (fun h => h rfl), c_copyFrom, bnd7_s]
    · have hP : RPa R P S w c (if nx ≤ 0 then 19 else nx - 1) ph pb pr pg pw ps pk := by
        refine ⟨by omega, by split <;> omega, fun i hi => ?_⟩
        rw [sl_dn hn hi hc]
        exact hE i (by omega)
      exact hP.st i2
end
