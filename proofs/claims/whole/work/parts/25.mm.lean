section
variable {S : Nat → Int32} {R P : Nat} {hour broken rungs people : Int32} {rung grip want slips worn room strength weight told : Nat → Int32}
/-- an hour without a rule -/
theorem r_spend_n {hb0 bk0 tp force : Int32} {will0 deed0 wil0 moved0 sign clause clauses : Nat → Int32} {st wd : Nat → Int64} (hI : IV R P S) (hW : RWd S hour broken rung grip want slips worn) (hL : RLd R P S rungs people room strength weight told) (hf : force < 0) :
    ∃ v br will' deed' b' rung' grip' slips' worn' S' wil' moved', f0_spend_n hb0 will0 deed0 hour broken rung grip want slips worn rungs people room strength weight told = some (v, br, will', deed', hour + 1, b', rung', grip', slips', worn') ∧ f12_passes sign clause clauses st tp wd S force wil0 moved0 bk0 = some (v, st, tp, wd, S', wil', moved', br) ∧ RWd S' (hour + 1) b' rung' grip' want slips' worn' ∧ IV R P S' ∧ St S S' ∧ (br = -1 ∨ ∃ r, r < R ∧ br = nn r) := by
  have hP4 := hI.1.2.1
  unfold f0_spend_n f12_passes
  have key := iter_twoF (B := fun (z : (Nat → Int32) × (Nat → Int32) × Int32) => f0_spend_n_B11 people rung want z.1 z.2.1 z.2.2) (C := fun (z : (Nat → Int64) × Int32 × (Nat → Int64) × (Nat → Int32) × (Nat → Int32) × Int32) => f12_passes_B2 S sign clause clauses force z.1 z.2.1 z.2.2.1 z.2.2.2.1 z.2.2.2.2.1 z.2.2.2.2.2) (s := (will0, deed0, (0 : Int32))) (t := (st, tp, wd, wil0, moved0, (0 : Int32))) (n := P)
    (I := fun n a b => ∃ k, n + k = P ∧ a.2.2 = nn k ∧ b.2.2.2.2.2 = nn k ∧ b.1 = st ∧ b.2.1 = tp ∧ b.2.2.1 = wd ∧ ∀ q, q < k → WIp a.1 b.2.2.2.1 q ∧ DEp a.2.1 b.2.2.2.2.1 q)
    (Po := fun a b => b.1 = st ∧ b.2.1 = tp ∧ b.2.2.1 = wd ∧ ∀ q, q < P → WIp a.1 b.2.2.2.1 q ∧ DEp a.2 b.2.2.2.2 q)
    ⟨0, rfl, rfl, rfl, rfl, rfl, rfl, fun q hq => by omega⟩ (by omega)
    (by
      rintro n ⟨wi, de, i⟩ ⟨st1, tp1, wd1, wi1, mo1, i1⟩ ⟨k, hk, rfl, rfl, rfl, rfl, rfl, hq0⟩
      dsimp only at hq0 ⊢
      unfold f0_spend_n_B11 f12_passes_B2
      rw [hI.1.2.2.2.1, hL.2.1]
      by_cases hkP : P ≤ k
      · right
        rw [if_pos (nleT (by omega) (by omega) hkP), if_pos (nleT (by omega) (by omega) hkP)]
        exact ⟨_, _, rfl, rfl, rfl, rfl, rfl, fun q hq => hq0 q (by omega)⟩
      · left
        have hc0 : ¬ (nn k < 0 ∨ 4 ≤ k) := ng (by omega) (by omega)
        obtain ⟨v, e1, e2, hv⟩ := r_will_n (sign := sign) (clause := clause) (clauses := clauses) (st := st1) (wd := wd1) (tp := tp1) hI hW hf (show k < P by omega)
        rw [if_neg (nle (by omega) (by omega) hkP), if_neg (nle (by omega) (by omega) hkP), e1, e2]
        simp only [bnd1_s, bnd4_s, lt_df, nn_succ]
        rw [nn_nat (by omega), if_neg hc0, if_neg hc0]
        refine ⟨_, _, n - 1, rfl, by rw [if_neg hc0, if_neg hc0], by omega, k + 1, by omega, rfl, rfl, rfl, rfl, rfl, fun q hq => ?_⟩
        dsimp only
        unfold WIp DEp
        by_cases e : q = k
        · subst e; rw [upd_at, upd_at, upd_at, upd_at]; exact ⟨⟨rfl, hv⟩, rfl, Or.inl rfl⟩
        · rw [upd_ne e, upd_ne e, upd_ne e, upd_ne e]; exact hq0 q (by omega))
  obtain ⟨⟨will1, deed1⟩, ⟨st1, tp1, wd1, wil1, moved1⟩, e1, e2, rfl, rfl, rfl, hq⟩ := key
  rw [e1, e2]
  obtain ⟨deed2, rung1, moved2, S1, v, br, b2, rung2, slips2, worn2, S2, rung3, grip3, slips3, v3, S3, f1, f2, f3, f4, f5, f6, h1, h2, h3, h4⟩ := r_hour2 (hb0 := hb0) (bk0 := bk0) hI hW hL (fun q h => (hq q h).2) (fun q h => (hq q h).1)
  have b49 : @f0_spend_n_B49 = @f0_spend_B49 := rfl
  have b98 : @f0_spend_n_B98 = @f0_spend_B98 := rfl
  simp only [bnd5_s, bnd2_s]
  rw [b49, b98, f1, f2]
  simp only [bnd2_s]
  rw [f3, f4]
  simp only [bnd6_s, bnd3_s]
  rw [f5, f6]
  exact ⟨v3, br, will1, deed2, b2, rung3, grip3, slips3, worn2, _, wil1, moved2, rfl, rfl, h1, h2, h3, h4⟩
end
