/-! draws, and who has fallen -/
def drw (d : Nat) : Nat := (d * 1103515245 + 12345) % 2147483648
theorem drw_lt (d : Nat) : drw d < 2147483648 := Nat.mod_lt _ (by decide)
theorem drw_eq (d : Nat) : (d * 1103515245 + 12345) % 2147483648 = drw d := Eq.refl _
theorem drw_l {d : Nat} (hd : d < 2147483648) : (lN d * (1103515245 : Int64) + (12345 : Int64)) - (lN d * (1103515245 : Int64) + (12345 : Int64)) / (2147483648 : Int64) * (2147483648 : Int64) = lN (drw d) := by
  have h := pk_lRem (a := d * 1103515245 + 12345) (b := 2147483648) (by omega) (by decide) (by decide)
  rw [drw_eq] at h
  rw [← h, ← lN_add, ← lN_mul]
  exact Eq.refl _
theorem c_draw {d : Nat} (hd : d < 2147483648) : f3_draw (nn d) = some (nn (drw d / 65536), nn (drw d)) := by
  have h1 : Int32.toInt64 (nn d) = lN d := nI_l (by omega)
  have hm := drw_lt d
  have h2 : nn (drw d) / (65536 : Int32) = nn (drw d / 65536) := pk_div (a := drw d) (d := 65536) (by omega) (by decide) (by decide)
  have h3 : Int64.toInt32 (lN (drw d)) = nn (drw d) := lN_i _
  unfold f3_draw
  rw [h1, lt_df, lt_df, lt_df, drw_l hd, h3, h2]
theorem m_draw {d : Nat} (hd : d < 2147483648) : f12_draw (lN d) 100 = some (nn (drw d / 65536 % 100), lN (drw d)) := by
  have hm := drw_lt d
  have h100 : Int32.toInt64 (100 : Int32) = lN 100 := nI_l (n := 100) (by decide)
  have h0 : ¬ (lN 100 = (0 : Int64)) := by decide
  have h4 := pk_lDiv (a := drw d) (b := 65536) (by omega) (by decide) (by decide)
  have h5 := pk_lRem (a := drw d / 65536) (b := 100) (by omega) (by decide) (by decide)
  have h6 : Int64.toInt32 (lN (drw d / 65536 % 100)) = nn (drw d / 65536 % 100) := lN_i _
  have e65 : (65536 : Int64) = lN 65536 := Eq.refl _
  unfold f12_draw
  rw [h100, lt_df, if_neg h0, lt_df, lt_df, drw_l hd, e65, h4, h5, h6]
theorem nn_rem100 {a : Nat} (ha : a < 2147483648) : nn a - nn a / (100 : Int32) * (100 : Int32) = nn (a % 100) := pk_rem (d := 100) (by omega) (by decide) (by decide)
theorem upd_self {f : Nat → Int32} {i : Nat} : upd f i (f i) = f := by
  funext j
  unfold upd
  split
  · next h => rw [h]
  · rfl
section
variable {S : Nat → Int32} {R P : Nat} {hour broken rungs people : Int32} {rung grip want slips worn room strength weight told : Nat → Int32}
theorem r_loosen {pp : Int32} {d : Nat} (hd : d < 2147483648) (hI : IV R P S) (hW : RWd S hour broken rung grip want slips worn) : ∃ d' grip' S', f3_loosen (nn d) rung grip (nn P) pp = some (nn d', grip') ∧ iter (fun (z : (Nat → Int32) × Int64 × Int32) => f12_years_B102 pp z.1 z.2.1 z.2.2) FUEL (S, lN d, (0 : Int32)) = some (S', lN d') ∧ d' < 2147483648 ∧ RWd S' hour broken rung grip' want slips worn ∧ IV R P S' ∧ St S S' := by
  have hR9 := hI.1.1
  have hP4 := hI.1.2.1
  unfold f3_loosen
  have key := iter_twoF (B := fun (z : Int32 × (Nat → Int32) × Int32) => f3_loosen_B2 (nn P) rung pp z.1 z.2.1 z.2.2) (C := fun (z : (Nat → Int32) × Int64 × Int32) => f12_years_B102 pp z.1 z.2.1 z.2.2) (s := (nn d, grip, (0 : Int32))) (t := (S, lN d, (0 : Int32))) (n := P)
    (I := fun n9 a b => ∃ k d, n9 + k = P ∧ a.2.2 = nn k ∧ b.2.2 = nn k ∧ a.1 = nn d ∧ b.2.1 = lN d ∧ d < 2147483648 ∧ RWd b.1 hour broken rung a.2.1 want slips worn ∧ IV R P b.1 ∧ St S b.1)
    (Po := fun a b => ∃ d, a.1 = nn d ∧ b.2 = lN d ∧ d < 2147483648 ∧ RWd b.1 hour broken rung a.2 want slips worn ∧ IV R P b.1 ∧ St S b.1)
    ⟨0, d, rfl, rfl, rfl, rfl, rfl, hd, hW, hI, St.rf⟩ (by omega)
    (by
      rintro n9 ⟨wx, gr, i⟩ ⟨T, dx, j⟩ ⟨k, d, hk, rfl, rfl, rfl, rfl, hd, hWk, hIk, hSt⟩
      dsimp only at hWk hIk hSt ⊢
      unfold f3_loosen_B2 f12_years_B102
      rw [hIk.1.2.2.2.1]
      by_cases hkP : P ≤ k
      · right
        rw [if_pos (nleT (by omega) (by omega) hkP), if_pos (nleT (by omega) (by omega) hkP)]
        exact ⟨_, _, rfl, rfl, d, rfl, rfl, hd, hWk, hIk, hSt⟩
      · left
        replace hkP : k < P := by omega
        have hk4 : k < 4 := by omega
        have hc0 : (nn k < 0 ∨ 4 ≤ k) = False := eq_false (ng (by omega) (by omega))
        have hix := ix_p1 hk4
        have hiF : ((46 : Int32) + (4 : Int32) * nn k + (1 : Int32) < 0 ∨ 110 ≤ 47 + 4 * k) = False := eq_false hix.2
        rw [if_neg (nle (by omega) (by omega) (by omega)), if_neg (nle (by omega) (by omega) (by omega))]
        rcases (hIk.2.1 k hkP).cases with hx | ⟨x, hx, hxx⟩
        · rw [c_fallen1 hk4 ((hWk.2.2.1 k hk4).trans hx), m_up0 hk4 hx]
          simp only [lt_df, bnd1_s, nn_succ]
          rw [if_neg (show ¬ (1 : Int32) = 0 by decide), if_pos trivial]
          exact ⟨_, _, n9 - 1, rfl, rfl, by omega, k + 1, d, by omega, rfl, rfl, rfl, rfl, hd, hWk, hIk, hSt⟩
        · obtain ⟨g, t, hg1, hgt, ht, hgS, htS⟩ := hIk.2.2 k hkP
          have hdm : drw d / 65536 < 2147483648 := Nat.lt_of_le_of_lt (Nat.div_le_self _ _) (drw_lt d)
          rw [c_fallen0 hk4 (show x < 2147483648 by omega) ((hWk.2.2.1 k hk4).trans hxx), m_up1 hk4 (show x < 2147483648 by omega) hxx]
          simp only [lt_df, bnd1_s]
          rw [if_pos trivial, if_neg (show ¬ (1 : Int32) = 0 by decide), c_draw hd, m_draw hd, bnd2_s, bnd2_s, nn_rem100 hdm, hix.1, nn_nat (show k < 2147483648 by omega)]
          simp only [hc0, hiF, if_false, lt_df, nn_succ]
          by_cases hpp : pp ≤ nn (drw d / 65536 % 100)
          · rw [if_pos hpp, if_pos hpp]
            exact ⟨_, _, n9 - 1, rfl, rfl, by omega, k + 1, drw d, by omega, rfl, rfl, rfl, rfl, drw_lt d, hWk, hIk, hSt⟩
          · rw [if_neg hpp, if_neg hpp, hWk.2.2.2.1 k hk4, hgS]
            obtain ⟨u, rfl⟩ : ∃ u, g = u + 1 := ⟨g - 1, by omega⟩
            rw [nn_pred']
            by_cases hu : u = 0
            · subst hu
              rw [if_neg (show ¬ (1 : Int32) < nn 0 by decide), if_pos (show nn (0 + 1) ≤ (1 : Int32) by decide)]
              have hW9 := hWk.u_grip (p := k) (T (47 + 4 * k))
              rw [upd_self, hgS] at hW9
              exact ⟨_, _, n9 - 1, rfl, rfl, by omega, k + 1, drw d, by omega, rfl, rfl, rfl, rfl, drw_lt d, hW9, hIk, hSt⟩
            · have hmx : (if (1 : Int32) < nn u then nn u else 1) = nn u := by
                by_cases h2 : u = 1
                · subst h2; decide
                · rw [if_pos (show (1 : Int32) < nn u from nltT (a := 1) (by omega) (by omega) (by omega))]
              rw [hmx, if_neg (show ¬ nn (u + 1) ≤ (1 : Int32) from nle (b := 1) (by omega) (by omega) (by omega))]
              refine ⟨_, _, n9 - 1, rfl, rfl, by omega, k + 1, drw d, by omega, rfl, rfl, rfl, rfl, drw_lt d, hWk.u_grip (p := k) (nn u), ⟨hIk.1.u_cell (by omega), fun q hq => (hIk.2.1 q hq).of hR9 (upd_ne (by omega)) (fun r hr => upd_ne (by omega)), fun q hq => ?_⟩, hSt.tr (St.u_cell (by omega))⟩
              by_cases hqk : q = k
              · subst hqk
                exact ⟨u, t, by omega, by omega, ht, upd_at, (upd_ne (by omega)).trans htS⟩
              · exact (hIk.2.2 q hq).of (upd_ne (by omega)) (upd_ne (by omega)))
  obtain ⟨⟨wx, gr⟩, ⟨T, dx⟩, e1, e2, d', h1, h2, h3, h4, h5, h6⟩ := key
  dsimp only at h1 h2
  subst h1 h2
  rw [e1, bnd2_s]
  exact ⟨d', gr, T, rfl, e2, h3, h4, h5, h6⟩
def nfF (g : Nat → Int32) : Nat → Nat
  | 0 => 0
  | k + 1 => nfF g k + if g k < 0 then 1 else 0
theorem nfF_le (g : Nat → Int32) : ∀ k, nfF g k ≤ k
  | 0 => Nat.le_refl 0
  | k + 1 => by have := nfF_le g k; simp only [nfF]; split <;> omega
theorem m_fallen (hP : S 1 = nn P) (hP4 : P < 5) : f12_fallen S = some (nn (nfF (gR S) P)) := by
  unfold f12_fallen
  rw [iter_for (s := ((0 : Int32), (0 : Int32))) (st := fun k => (nn (nfF (gR S) k), nn k)) (n := P) (out := nn (nfF (gR S) P)) rfl (by omega) ?hs ?he]
  · rfl
  case hs =>
    intro k hk
    unfold f12_fallen_B4 f12_fallen_J28
    dsimp only
    rw [hP, if_neg (nle (by omega) (by omega) (by omega)), m_isUp (by omega), bnd1_s]
    simp only [lt_df, nn_succ, nfF]
    by_cases h : gR S k < 0
    · rw [if_pos h, show (if S (46 + 4 * k) < 0 then (0 : Int32) else 1) = 0 from if_pos h, if_pos rfl]
    · rw [if_neg h, show (if S (46 + 4 * k) < 0 then (0 : Int32) else 1) = 1 from if_neg h, if_neg (by decide), Int32.add_zero]; rfl
  case he =>
    unfold f12_fallen_B4
    dsimp only
    rw [hP, if_pos (Int32.le_refl _)]
theorem bc16 : ∀ b, b < 16 → fJ6_bitCount (nn b) = some (nn ((b % 2) + (b / 2 % 2) + (b / 4 % 2) + (b / 8 % 2))) := by decide +kernel
theorem lf_bits (g : Nat → Int32) : ∀ k, k < 5 → ∃ b, lfF g k = nn b ∧ b < 2 ^ k ∧ (b % 2) + (b / 2 % 2) + (b / 4 % 2) + (b / 8 % 2) = k - nfF g k := by
  have step : ∀ k, k < 4 → ∀ b, b < 2 ^ k → (nn b ||| ((1 : Int32) <<< (nn k &&& 31))) = nn (b + 2 ^ k) ∧ ((b + 2 ^ k) % 2) + ((b + 2 ^ k) / 2 % 2) + ((b + 2 ^ k) / 4 % 2) + ((b + 2 ^ k) / 8 % 2) = (b % 2) + (b / 2 % 2) + (b / 4 % 2) + (b / 8 % 2) + 1 := by decide +kernel
  intro k
  induction k with
  | zero => intro _; exact ⟨0, rfl, by decide, rfl⟩
  | succ k ih =>
    intro hk
    obtain ⟨b, h1, h2, h3⟩ := ih (Nat.lt_of_succ_lt hk)
    have hnf := nfF_le g k
    simp only [lfF, nfF]
    by_cases h : g k < 0
    · rw [if_pos h, if_pos h, Int32.or_zero]
      exact ⟨b, h1, Nat.lt_of_lt_of_le h2 (Nat.pow_le_pow_right (by decide) (Nat.le_succ k)), by rw [h3]; exact (Nat.add_sub_add_right k 1 _).symm⟩
    · rw [if_neg h, if_neg h, h1]
      obtain ⟨s1, s2⟩ := step k (Nat.lt_of_succ_lt_succ hk) b h2
      exact ⟨b + 2 ^ k, s1, by rw [Nat.pow_succ, Nat.mul_two]; exact Nat.add_lt_add_right h2 _, by rw [s2, h3]; exact (Nat.sub_add_comm hnf).symm⟩
theorem c_left (hI : IV R P S) (hW : RWd S hour broken rung grip want slips worn) : ∃ w, f10_whoIsLeft rung (nn P) = some w ∧ fJ6_bitCount w = some (nn (P - nfF (gR S) P)) := by
  have hP4 := hI.1.2.1
  have hneg : ∀ p, p < P → (rung p = -1 ↔ rung p < 0) := by
    intro p hp
    rw [hW.2.2.1 p (by omega)]
    rcases (hI.2.1 p hp).cases with h | ⟨r, hr, h⟩
    · rw [h]; decide
    · rw [h]; have hR9 := hI.1.1; exact ⟨fun h9 => absurd h9 (nn_ne_m1 (by omega)), fun h9 => absurd h9 (nlt0 (by omega))⟩
  have hP5 : P ≤ 4 := by omega
  refine ⟨lfF (gR S) P, ?_, ?_⟩
  · rw [c_whoIsLeft hP4 hneg, lfF_congr (g' := gR S) (fun p hp => hW.2.2.1 p (by omega))]
  · obtain ⟨b, h1, h2, h3⟩ := lf_bits (gR S) P hP4
    have hb : b < 16 := Nat.lt_of_lt_of_le h2 (Nat.pow_le_pow_right (n := 2) (by decide) hP5)
    rw [h1, bc16 b hb, h3]
theorem fall_diff : ∀ P, P < 5 → ∀ a, a < 5 → ∀ b, b < 5 → (P < a ∨ P < b ∨ nn (P - a) - nn (P - b) = nn b - nn a) := by decide +kernel
end
