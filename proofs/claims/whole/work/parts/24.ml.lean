theorem c_fallen1 {g : Nat → Int32} {p : Nat} (hp : p < 4) (h : g p = -1) : f10_hasFallen g (nn p) = some 1 := by rw [c_hasFallen hp, h]; rfl
theorem c_fallen0 {g : Nat → Int32} {p x : Nat} (hp : p < 4) (hx : x < 2147483648) (h : g p = nn x) : f10_hasFallen g (nn p) = some 0 := by rw [c_hasFallen hp, h, if_neg (nn_ne_m1 hx)]
theorem m_up0 {S : Nat → Int32} {p : Nat} (hp : p < 4) (h : S (46 + 4 * p) = -1) : f12_isUp S (nn p) = some 0 := by rw [m_isUp hp, h]; rfl
theorem m_up1 {S : Nat → Int32} {p x : Nat} (hp : p < 4) (hx : x < 2147483648) (h : S (46 + 4 * p) = nn x) : f12_isUp S (nn p) = some 1 := by rw [m_isUp hp, h, if_neg (nlt0 hx)]
section
variable {S : Nat → Int32} {R P : Nat} {hour broken rungs people : Int32} {rung grip want slips worn room strength weight told deed moved will wil2 : Nat → Int32}
/-- who wills to goes, all are worn and break, all tire -/
theorem r_hour2 {hb0 bk0 : Int32} (hI : IV R P S) (hW : RWd S hour broken rung grip want slips worn) (hL : RLd R P S rungs people room strength weight told) (hd : ∀ q, q < P → DEp deed moved q) (hw : ∀ q, q < P → WIp will wil2 q) :
    ∃ deed1 rung1 moved1 S1 v br b2 rung2 slips2 worn2 S2 rung3 grip3 slips3 v3 S3,
      iter (fun (z : (Nat → Int32) × (Nat → Int32) × Int32) => f0_spend_B49 people will broken rungs room z.1 z.2.1 z.2.2) FUEL (deed, rung, (0 : Int32)) = some (deed1, rung1) ∧
      iter (fun (z : (Nat → Int32) × (Nat → Int32) × Int32) => f12_passes_B38 wil2 z.1 z.2.1 z.2.2) FUEL (S, moved, (0 : Int32)) = some (S1, moved1) ∧
      f0_wear hb0 broken rung1 slips worn rungs people strength weight = some (v, br, b2, rung2, slips2, worn2) ∧ f12_wears S1 bk0 = some (v, S2, br) ∧
      iter (fun (z : (Nat → Int32) × (Nat → Int32) × (Nat → Int32) × Int32 × Int32) => f0_spend_B98 people deed1 b2 told z.1 z.2.1 z.2.2.1 z.2.2.2.1 z.2.2.2.2) FUEL (rung2, grip, slips2, v, (0 : Int32)) = some (rung3, grip3, slips3, v3) ∧
      iter (fun (z : (Nat → Int32) × Int32 × Int32) => f12_passes_B66 moved1 z.1 z.2.1 z.2.2) FUEL (S2, v, (0 : Int32)) = some (S3, v3) ∧
      RWd (upd S3 2 (S3 2 + 1)) (hour + 1) b2 rung3 grip3 want slips3 worn2 ∧ IV R P (upd S3 2 (S3 2 + 1)) ∧ St S (upd S3 2 (S3 2 + 1)) ∧ (br = -1 ∨ ∃ r, r < R ∧ br = nn r) := by
  have hR9 := hI.1.1
  have hP4 := hI.1.2.1
  have key1 := iter_twoF (B := fun (z : (Nat → Int32) × (Nat → Int32) × Int32) => f0_spend_B49 people will broken rungs room z.1 z.2.1 z.2.2) (C := fun (z : (Nat → Int32) × (Nat → Int32) × Int32) => f12_passes_B38 wil2 z.1 z.2.1 z.2.2) (s := (deed, rung, (0 : Int32))) (t := (S, moved, (0 : Int32))) (n := P)
    (I := fun n a b => ∃ k, n + k = P ∧ a.2.2 = nn k ∧ b.2.2 = nn k ∧ RWd b.1 hour broken a.2.1 grip want slips worn ∧ IV R P b.1 ∧ St S b.1 ∧ (∀ q, q < P → DEp a.1 b.2.1 q))
    (Po := fun a b => RWd b.1 hour broken a.2 grip want slips worn ∧ IV R P b.1 ∧ St S b.1 ∧ (∀ q, q < P → DEp a.1 b.2 q))
    ⟨0, rfl, rfl, rfl, hW, hI, St.rf, hd⟩ (by omega)
    (by
      rintro n ⟨de, rg, i⟩ ⟨T, mo, i'⟩ ⟨k, hk, rfl, rfl, hWk, hIk, hSt, hdk⟩
      dsimp only at hWk hIk hSt hdk ⊢
      unfold f0_spend_B49 f12_passes_B38
      rw [hIk.1.2.2.2.1, hL.2.1]
      by_cases hkP : P ≤ k
      · right
        rw [if_pos (nleT (by omega) (by omega) hkP), if_pos (nleT (by omega) (by omega) hkP)]
        exact ⟨_, _, rfl, rfl, hWk, hIk, hSt, hdk⟩
      · left
        have hc0 : ¬ (nn k < 0 ∨ 4 ≤ k) := ng (by omega) (by omega)
        obtain ⟨de', mo', rg', T', e1, e2, hW2, hI2, hSt2, hd2⟩ := r_go hIk hWk (hL.st hSt hR9) hdk hw (show k < P by omega)
        rw [if_neg (nle (by omega) (by omega) hkP), if_neg (nle (by omega) (by omega) hkP), nn_nat (by omega), if_neg hc0, if_neg hc0, e2]
        rw [hL.2.1] at e1
        simp only [bnd2_s, lt_df, nn_succ]
        refine ⟨(de', rg', nn (k + 1)), _, n - 1, ?_, rfl, by omega, k + 1, by omega, rfl, rfl, hW2, hI2, hSt.tr hSt2, hd2⟩
        by_cases h1 : will k = 0
        · rw [if_pos h1] at e1 ⊢; cases e1; rfl
        · rw [if_neg h1] at e1 ⊢
          by_cases h2 : de k = 0
          · rw [if_pos h2] at e1 ⊢; rw [e1, bnd2_s]
          · rw [if_neg h2] at e1 ⊢; cases e1; rfl)
  obtain ⟨⟨deed1, rung1⟩, ⟨S1, moved1⟩, e1, e2, hW1, hI1, hSt1, hd1⟩ := key1
  dsimp only at hW1 hI1 hSt1 hd1
  obtain ⟨v, br, b2, rung2, slips2, worn2, S2, e3, e4, hW2, hI2, hSt2, hbr⟩ := r_wear (hb0 := hb0) (bk0 := bk0) hI1 hW1 (hL.st hSt1 hR9)
  have key3 := iter_twoF (B := fun (z : (Nat → Int32) × (Nat → Int32) × (Nat → Int32) × Int32 × Int32) => f0_spend_B98 people deed1 b2 told z.1 z.2.1 z.2.2.1 z.2.2.2.1 z.2.2.2.2) (C := fun (z : (Nat → Int32) × Int32 × Int32) => f12_passes_B66 moved1 z.1 z.2.1 z.2.2) (s := (rung2, grip, slips2, v, (0 : Int32))) (t := (S2, v, (0 : Int32))) (n := P)
    (I := fun n a b => ∃ k, n + k = P ∧ a.2.2.2.2 = nn k ∧ b.2.2 = nn k ∧ a.2.2.2.1 = b.2.1 ∧ RWd b.1 hour b2 a.1 a.2.1 want a.2.2.1 worn2 ∧ IV R P b.1 ∧ St S b.1)
    (Po := fun a b => a.2.2.2 = b.2 ∧ RWd b.1 hour b2 a.1 a.2.1 want a.2.2.1 worn2 ∧ IV R P b.1 ∧ St S b.1)
    ⟨0, rfl, rfl, rfl, rfl, hW2, hI2, hSt1.tr hSt2⟩ (by omega)
    (by
      rintro n ⟨rg, gr, sl, m, i⟩ ⟨T, m', i'⟩ ⟨k, hk, rfl, rfl, rfl, hWk, hIk, hSt⟩
      dsimp only at hWk hIk hSt ⊢
      unfold f0_spend_B98 f12_passes_B66
      rw [hIk.1.2.2.2.1, hL.2.1]
      by_cases hkP : P ≤ k
      · right
        rw [if_pos (nleT (by omega) (by omega) hkP), if_pos (nleT (by omega) (by omega) hkP)]
        exact ⟨_, _, rfl, rfl, rfl, hWk, hIk, hSt⟩
      · left
        rw [if_neg (nle (by omega) (by omega) hkP), if_neg (nle (by omega) (by omega) hkP)]
        rcases (hIk.2.1 k (by omega)).cases with hx | ⟨x, hx, hxx⟩
        · rw [c_fallen1 (by omega) ((hWk.2.2.1 k (by omega)).trans hx), m_up0 (by omega) hx]
          simp only [bnd1_s, lt_df, nn_succ]
          rw [if_neg (show ¬ (1 : Int32) = 0 by decide), if_pos trivial]
          exact ⟨_, _, n - 1, rfl, rfl, by omega, k + 1, by omega, rfl, rfl, rfl, hWk, hIk, hSt⟩
        · rw [c_fallen0 (by omega) (show x < 2147483648 by omega) ((hWk.2.2.1 k (by omega)).trans hxx), m_up1 (by omega) (show x < 2147483648 by omega) hxx]
          simp only [bnd1_s, lt_df, nn_succ]
          rw [if_pos trivial, if_neg (show ¬ (1 : Int32) = 0 by decide)]
          obtain ⟨w, rg', gr', sl', T', f1, f2, hW3, hI3, hSt3, hv⟩ := r_tire hIk hWk (hL.st hSt hR9) (hd1 k (by omega)) (show k < P by omega) ⟨x, hx, hxx⟩
          rw [f1, f2]
          simp only [bnd4_s, bnd2_s, lt_df, nn_succ]
          rcases hv with rfl | rfl
          · rw [if_pos rfl, Int32.add_zero]
            exact ⟨_, _, n - 1, rfl, rfl, by omega, k + 1, by omega, rfl, rfl, rfl, hW3, hI3, hSt.tr hSt3⟩
          · rw [if_neg (by decide)]
            exact ⟨_, _, n - 1, rfl, rfl, by omega, k + 1, by omega, rfl, rfl, rfl, hW3, hI3, hSt.tr hSt3⟩)
  obtain ⟨⟨rung3, grip3, slips3, v3⟩, ⟨S3, v3'⟩, e5, e6, rfl, hW3, hI3, hSt3⟩ := key3
  dsimp only at hW3 hI3 hSt3 e5 e6
  have hh : hour + 1 = S3 2 + 1 := by rw [hW3.1]
  refine ⟨_, _, _, _, _, _, _, _, _, _, _, _, _, _, _, _, e1, e2, e3, e4, e5, e6, ?_, ⟨hI3.1.u_cell (by omega), fun q hq => (hI3.2.1 q hq).of hR9 (upd_ne (by omega)) (fun r hr => upd_ne (by omega)), fun q hq => (hI3.2.2 q hq).of (upd_ne (by omega)) (upd_ne (by omega))⟩, hSt3.tr (St.u_cell (by omega)), hbr⟩
  rw [hh]; exact hW3.u_hour _
theorem cmp_9 : ∀ a, a < 9 → ∀ b, b < 9 → ∃ v : Int32, fJ6_compare (nn a) (nn b) = some v ∧ (if (lg_cmp (Int32.toInt64 (nn a - nn b)) (0 : Int64)) ≤ 0 then (if 0 ≤ (lg_cmp (Int32.toInt64 (nn a - nn b)) (0 : Int64)) then (0 : Int32) else -1) else 1) = v ∧ (v = 0 ∨ v = 1 ∨ v = -1) := by
  have h : ∀ a, a < 9 → ∀ b, b < 9 → fJ6_compare (nn a) (nn b) = some (if (lg_cmp (Int32.toInt64 (nn a - nn b)) (0 : Int64)) ≤ 0 then (if 0 ≤ (lg_cmp (Int32.toInt64 (nn a - nn b)) (0 : Int64)) then (0 : Int32) else -1) else 1) := by decide +kernel
  intro a ha b hb
  refine ⟨_, h a ha b hb, rfl, ?_⟩
  split
  · split
    · exact Or.inl rfl
    · exact Or.inr (Or.inr rfl)
  · exact Or.inr (Or.inl rfl)
/-- what is willed without a rule -/
theorem r_will_n {p : Nat} {sign clause clauses : Nat → Int32} {st wd : Nat → Int64} {tp force : Int32} (hI : IV R P S) (hW : RWd S hour broken rung grip want slips worn) (hf : force < 0) (hp : p < P) : ∃ v, f0_willOf_n rung want (nn p) = some v ∧ f12_willOf sign clause clauses st tp wd S force (nn p) = some (v, st, tp, wd) ∧ (v = 0 ∨ v = 1 ∨ v = -1) := by
  have hR9 := hI.1.1
  have hP4 := hI.1.2.1
  have hp4 : p < 4 := by omega
  have hc0 : ¬ (nn p < 0 ∨ 4 ≤ p) := ng (by omega) (by omega)
  unfold f0_willOf_n f12_willOf
  rw [m_p0 hp4, m_p2 hp4]
  rcases (hI.2.1 p hp).cases with hx | ⟨x, hx, hxx⟩
  · rw [c_fallen1 hp4 ((hW.2.2.1 p hp4).trans hx), m_up0 hp4 hx]
    simp only [bnd1_s]
    rw [if_neg (show ¬ (1 : Int32) = 0 by decide), if_pos trivial]
    exact ⟨0, rfl, rfl, Or.inl rfl⟩
  · obtain ⟨w, hw, hww⟩ := hI.1.2.2.2.2.2.2.1 p hp
    obtain ⟨v, h1, h2, h3⟩ := cmp_9 w (by omega) x (by omega)
    rw [c_fallen0 hp4 (show x < 2147483648 by omega) ((hW.2.2.1 p hp4).trans hxx), m_up1 hp4 (show x < 2147483648 by omega) hxx]
    simp only [bnd1_s, lt_df]
    rw [if_pos trivial, if_neg (show ¬ (1 : Int32) = 0 by decide), if_pos hf, nn_nat (by omega), if_neg hc0, if_neg hc0, hW.2.2.2.2.1 p hp4, hW.2.2.1 p hp4, hww, hxx, h1, bnd1_s]
    refine ⟨v, rfl, ?_, h3⟩
    unfold f12_willOf_J46
    rw [← h2]
    split
    · split <;> rfl
    · rfl
end
