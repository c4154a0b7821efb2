section
variable {S : Nat → Int32} {R P : Nat} {hour broken rungs people : Int32} {rung grip want slips worn room strength weight told : Nat → Int32}
variable {hb th tb o_brokenRung o_brokenHour o_mendedRung o_mendedHour : Int32} {wl de tr tg tw ts tk : Nat → Int32} {wo : Nat → Int64}
variable {nc ns nt : Nat} {code sumEnd testEnd : Nat → Int32} {stack : Nat → Int64} {top : Int32}
variable {sign clause clauses : Nat → Int32} {force : Int32} {st wd : Nat → Int64} {tp bk bh : Int32} {wil mov : Nat → Int32}

variable {kept : Nat → Int32}
theorem iter_done {S9 E9 : Type} {B : S9 → Option (S9 ⊕ E9)} {t : S9} {b : E9} {f n : Nat} (h : B t = some (.inr b)) (hf : n < f) : iter B f t = some b := by
  obtain ⟨f, rfl⟩ : ∃ u, f = u + 1 := ⟨f - 1, by omega⟩
  unfold iter; rw [h]
theorem r_needs {r : Nat} (hI : IV R P S) (hW : RWd S hour broken rung grip want slips worn) (hr : r < R) : ∃ v, f10_needsMending broken worn (nn r) = some v ∧ f12_canMend S (nn r) = some v ∧ (v = 0 ∨ v = 1) := by
  have hR9 := hI.1.1
  obtain ⟨b, hb, hbb, hbt⟩ := hW.2.1
  unfold f10_needsMending f12_canMend f10_needsMending_J17 f12_canMend_J19
  rw [nn_nat (by omega), if_neg (ng (by omega) (by omega)), hW.2.2.2.2.2.2 r (by omega), hbb, c_isBroken, ← hbt r (by omega), m_r2 (by omega), m_r3 (by omega), bnd1_s, bnd1_s, bnd1_s]
  by_cases h : 0 < S (12 + 4 * r)
  · rw [if_pos h, if_pos h]; exact ⟨1, rfl, rfl, Or.inr rfl⟩
  · rw [if_neg h, if_neg h]
    rcases hI.1.2.2.2.2.1 r (by omega) with h0 | h1
    · rw [h0]; exact ⟨0, rfl, rfl, Or.inl rfl⟩
    · rw [h1]; exact ⟨1, rfl, rfl, Or.inr rfl⟩
theorem St.back {S T f : Nat → Int32} (h : St S T) : f12_laysBack T (ov 62 S f) = some S := by
  rw [m_laysBack, ov_back (fun i hi => h.2.2.2 i hi)]

theorem m_mendRest_n {h0 q : Nat} (hth : hour = nn h0) (hh5 : h0 < 2000) (hq : q < R) (hI : IV R P S) (hW : RWd S hour broken rung grip want slips worn) (hL : RLd R P S rungs people room strength weight told) (hf : force < 0) : ∀ (f n9 : Nat) (t : (Nat → Int64) × Int32 × (Nat → Int64) × (Nat → Int32) × (Nat → Int32) × (Nat → Int32) × Int32 × (Nat → Int32) × Int32 × Int32 × Int32 × Int32), (∃ k, n9 + k = R ∧ t.2.2.2.2.2.2.2.2.2.2.2 = nn k ∧ t.2.2.2.1 = S ∧ t.2.2.2.2.2.2.2.2.2.1 = nn q ∧ t.2.2.2.2.2.2.2.2.2.2.1 = (9999 : Int32)) → n9 < f → ∃ b, iter (fun (z : (Nat → Int64) × Int32 × (Nat → Int64) × (Nat → Int32) × (Nat → Int32) × (Nat → Int32) × Int32 × (Nat → Int32) × Int32 × Int32 × Int32 × Int32) => f12_mending_B28 sign clause clauses force z.1 z.2.1 z.2.2.1 z.2.2.2.1 z.2.2.2.2.1 z.2.2.2.2.2.1 z.2.2.2.2.2.2.1 z.2.2.2.2.2.2.2.1 z.2.2.2.2.2.2.2.2.1 z.2.2.2.2.2.2.2.2.2.1 z.2.2.2.2.2.2.2.2.2.2.1 z.2.2.2.2.2.2.2.2.2.2.2) f t = some b ∧ (b.2.2.2.1 = S ∧ b.2.2.2.2.2.2.2.2.2.1 = nn q ∧ b.2.2.2.2.2.2.2.2.2.2 = (9999 : Int32)) := by
  have hR9 := hI.1.1
  refine iter_wf (B := (fun (z : (Nat → Int64) × Int32 × (Nat → Int64) × (Nat → Int32) × (Nat → Int32) × (Nat → Int32) × Int32 × (Nat → Int32) × Int32 × Int32 × Int32 × Int32) => f12_mending_B28 sign clause clauses force z.1 z.2.1 z.2.2.1 z.2.2.2.1 z.2.2.2.2.1 z.2.2.2.2.2.1 z.2.2.2.2.2.2.1 z.2.2.2.2.2.2.2.1 z.2.2.2.2.2.2.2.2.1 z.2.2.2.2.2.2.2.2.2.1 z.2.2.2.2.2.2.2.2.2.2.1 z.2.2.2.2.2.2.2.2.2.2.2)) (I := fun n9 t => ∃ k, n9 + k = R ∧ t.2.2.2.2.2.2.2.2.2.2.2 = nn k ∧ t.2.2.2.1 = S ∧ t.2.2.2.2.2.2.2.2.2.1 = nn q ∧ t.2.2.2.2.2.2.2.2.2.2.1 = (9999 : Int32)) (Po := fun b => b.2.2.2.1 = S ∧ b.2.2.2.2.2.2.2.2.2.1 = nn q ∧ b.2.2.2.2.2.2.2.2.2.2 = (9999 : Int32)) ?_
  rintro n9 ⟨y0, y1, y2, T, y3, y4, y5, y6, y7, y8, y9, j⟩ ⟨k, hk, rfl, hTS, rfl, rfl⟩
  dsimp only at hTS ⊢
  subst hTS
  unfold f12_mending_B28
  rw [hI.1.2.2.1]
  by_cases hkR : R ≤ k
  · right
    rw [if_pos (nleT (by omega) (by omega) hkR)]
    exact ⟨_, rfl, rfl, rfl, rfl⟩
  · left
    replace hkR : k < R := by omega
    obtain ⟨v, -, e2, hv⟩ := r_needs hI hW hkR
    rw [if_neg (nle (by omega) (by omega) (by omega)), e2, bnd1_s]
    rcases hv with rfl | rfl
    · rw [if_pos rfl, lt_df, nn_succ]
      exact ⟨_, n9 - 1, rfl, by omega, k + 1, by omega, rfl, rfl, rfl, rfl⟩
    · obtain ⟨u0, u1, u2, u3, u4, u5, u6, u7, u8, u9, u10, u11, u12, v, SM, w1, w2, w3, w4, w5, w6, w7, w8, -, f1, f2, hs, h⟩ := r_foreM_n (hb := 0) (wl := T) (de := T) (th := 0) (tb := 0) (tr := T) (tg := T) (tw := T) (ts := T) (tk := T) (o_brokenRung := 0) (o_brokenHour := 0) (sign := sign) (clause := clause) (clauses := clauses) (st := y0) (tp := y1) (wd := y2) (wil := y3) (mov := y4) (bk := y5) (bh := y7) hkR hth (show h0 < 5000 by omega) hI hW hL hf
      rw [if_neg (show ¬ (1 : Int32) = 0 by decide), m_keeps, bnd1_s, f1, bnd1_s, f2, bnd9_s]
      unfold f12_mending_J78
      rw [hs.back, bnd1_s, bnd1_s, if_neg (nlt0 (by omega)), if_neg (nlt0 (by omega))]
      rcases h with ⟨-, rfl⟩ | ⟨-, r, h, hr, -, rfl, rfl, -, h1, h2⟩
      · rw [if_neg (show ¬ (0 : Int32) ≤ -1 by decide), if_neg (show ¬ (9999 : Int32) < 9999 by decide), lt_df, nn_succ]
        exact ⟨_, n9 - 1, rfl, by omega, k + 1, by omega, rfl, rfl, rfl, rfl⟩
      · rw [if_pos (n0le (by omega)), if_neg (show ¬ (9999 : Int32) < nn h from nlt (a := 9999) (by omega) (by omega) (by omega)), lt_df, nn_succ]
        exact ⟨_, n9 - 1, rfl, by omega, k + 1, by omega, rfl, rfl, rfl, rfl⟩
theorem r_findM_n {h0 : Nat} (hth : hour = nn h0) (hh5 : h0 < 2000) (hI : IV R P S) (hW : RWd S hour broken rung grip want slips worn) (hL : RLd R P S rungs people room strength weight told) (hf : force < 0) : ∃ br1 bh1 mr1 mh1 hb1 wl1 de1 h1 b1 rg1 gr1 wt1 sl1 wn1 st1 tp1 wd1 wi1 mo1 bk1 kp1 bq1 best lat2, f3_findMending_n o_brokenRung o_brokenHour o_mendedRung o_mendedHour hb wl de th tb tr tg tw ts tk hour broken rung grip want slips worn rungs people room strength weight told = some (br1, bh1, mr1, mh1, hb1, wl1, de1, h1, b1, rg1, gr1, wt1, sl1, wn1) ∧ iter (fun (z : (Nat → Int64) × Int32 × (Nat → Int64) × (Nat → Int32) × (Nat → Int32) × (Nat → Int32) × Int32 × (Nat → Int32) × Int32 × Int32 × Int32 × Int32) => f12_mending_B28 sign clause clauses force z.1 z.2.1 z.2.2.1 z.2.2.2.1 z.2.2.2.2.1 z.2.2.2.2.2.1 z.2.2.2.2.2.2.1 z.2.2.2.2.2.2.2.1 z.2.2.2.2.2.2.2.2.1 z.2.2.2.2.2.2.2.2.2.1 z.2.2.2.2.2.2.2.2.2.2.1 z.2.2.2.2.2.2.2.2.2.2.2) FUEL (st, tp, wd, S, wil, mov, bk, kept, bh, (-2 : Int32), (0 : Int32), (0 : Int32)) = some (st1, tp1, wd1, S, wi1, mo1, bk1, kp1, bq1, best, lat2) ∧ ((mr1 = -2 ∧ mh1 = -2 ∧ best = -2) ∨ ∃ q, q < R ∧ mr1 = nn q ∧ best = nn q ∧ ((mh1 = -1 ∧ lat2 = (9999 : Int32)) ∨ ∃ h, h < 9000 ∧ mh1 = nn h ∧ lat2 = nn h)) := by
  have hR9 := hI.1.1
  unfold f3_findMending_n
  have key := iter_twoEF (B := (fun (z : Int32 × Int32 × Int32 × Int32 × Int32 × (Nat → Int32) × (Nat → Int32) × Int32 × Int32 × (Nat → Int32) × (Nat → Int32) × (Nat → Int32) × (Nat → Int32) × (Nat → Int32) × Int32 × Int32) => f3_findMending_n_B17 rungs broken worn hour rung grip want slips people room strength weight told z.1 z.2.1 z.2.2.1 z.2.2.2.1 z.2.2.2.2.1 z.2.2.2.2.2.1 z.2.2.2.2.2.2.1 z.2.2.2.2.2.2.2.1 z.2.2.2.2.2.2.2.2.1 z.2.2.2.2.2.2.2.2.2.1 z.2.2.2.2.2.2.2.2.2.2.1 z.2.2.2.2.2.2.2.2.2.2.2.1 z.2.2.2.2.2.2.2.2.2.2.2.2.1 z.2.2.2.2.2.2.2.2.2.2.2.2.2.1 z.2.2.2.2.2.2.2.2.2.2.2.2.2.2.1 z.2.2.2.2.2.2.2.2.2.2.2.2.2.2.2)) (C := (fun (z : (Nat → Int64) × Int32 × (Nat → Int64) × (Nat → Int32) × (Nat → Int32) × (Nat → Int32) × Int32 × (Nat → Int32) × Int32 × Int32 × Int32 × Int32) => f12_mending_B28 sign clause clauses force z.1 z.2.1 z.2.2.1 z.2.2.2.1 z.2.2.2.2.1 z.2.2.2.2.2.1 z.2.2.2.2.2.2.1 z.2.2.2.2.2.2.2.1 z.2.2.2.2.2.2.2.2.1 z.2.2.2.2.2.2.2.2.2.1 z.2.2.2.2.2.2.2.2.2.2.1 z.2.2.2.2.2.2.2.2.2.2.2)) (s := (o_brokenRung, o_brokenHour, (-2 : Int32), (-2 : Int32), hb, wl, de, th, tb, tr, tg, tw, ts, tk, (-1 : Int32), (0 : Int32))) (t := (st, tp, wd, S, wil, mov, bk, kept, bh, (-2 : Int32), (0 : Int32), (0 : Int32))) (n := R)
    (I := fun n9 a b => ∃ k, n9 + k = R ∧ a.2.2.2.2.2.2.2.2.2.2.2.2.2.2.2 = nn k ∧ b.2.2.2.2.2.2.2.2.2.2.2 = nn k ∧ b.2.2.2.1 = S ∧ ((a.2.2.1 = -2 ∧ a.2.2.2.1 = -2 ∧ a.2.2.2.2.2.2.2.2.2.2.2.2.2.2.1 = -1 ∧ b.2.2.2.2.2.2.2.2.2.1 = -2 ∧ b.2.2.2.2.2.2.2.2.2.2.1 = 0) ∨ ∃ q, q < R ∧ a.2.2.1 = nn q ∧ b.2.2.2.2.2.2.2.2.2.1 = nn q ∧ ((a.2.2.2.2.2.2.2.2.2.2.2.2.2.2.1 = (1000000 : Int32) ∧ a.2.2.2.1 = -1 ∧ b.2.2.2.2.2.2.2.2.2.2.1 = (9999 : Int32)) ∨ ∃ h, h < 9000 ∧ a.2.2.2.2.2.2.2.2.2.2.2.2.2.2.1 = nn h ∧ a.2.2.2.1 = nn h ∧ b.2.2.2.2.2.2.2.2.2.2.1 = nn h)))
    (Po := fun a b => b.2.2.2.1 = S ∧ ((a.2.2.1 = -2 ∧ a.2.2.2.1 = -2 ∧ b.2.2.2.2.2.2.2.2.2.1 = -2) ∨ ∃ q, q < R ∧ a.2.2.1 = nn q ∧ b.2.2.2.2.2.2.2.2.2.1 = nn q ∧ ((a.2.2.2.1 = -1 ∧ b.2.2.2.2.2.2.2.2.2.2 = (9999 : Int32)) ∨ ∃ h, h < 9000 ∧ a.2.2.2.1 = nn h ∧ b.2.2.2.2.2.2.2.2.2.2 = nn h)))
    ⟨0, rfl, rfl, rfl, rfl, Or.inl ⟨rfl, rfl, rfl, rfl, rfl⟩⟩ (by omega)
    (by
      rintro n9 ⟨x8, x9, mr, mh, x0, x1, x2, t0, t1, t2, t3, t4, t5, t6, lat, i⟩ ⟨y0, y1, y2, T, y3, y4, y5, y6, y7, best, lat2, j⟩ ⟨k, hk, rfl, rfl, hTS, hrel⟩
      dsimp only at hTS hrel ⊢
      subst hTS
      unfold f3_findMending_n_B17
      rw [hL.1]
      have hr2 : ((mr = -2 ∧ mh = -2 ∧ best = -2) ∨ ∃ q, q < R ∧ mr = nn q ∧ best = nn q ∧ ((mh = -1 ∧ lat2 = (9999 : Int32)) ∨ ∃ h, h < 9000 ∧ mh = nn h ∧ lat2 = nn h)) := by
        rcases hrel with ⟨h1, h2, _, h3, _⟩ | ⟨q, hq, h1, h2, ⟨_, h3, h4⟩ | ⟨h, hh, _, h3, h4⟩⟩
        · exact Or.inl ⟨h1, h2, h3⟩
        · exact Or.inr ⟨q, hq, h1, h2, Or.inl ⟨h3, h4⟩⟩
        · exact Or.inr ⟨q, hq, h1, h2, Or.inr ⟨h, hh, h3, h4⟩⟩
      by_cases hkR : R ≤ k
      · right
        rw [if_pos (nleT (by omega) (by omega) hkR)]
        exact ⟨_, rfl, fun f hf9 => ⟨_, iter_done (by dsimp only; unfold f12_mending_B28; rw [hI.1.2.2.1, if_pos (nleT (by omega) (by omega) hkR)]) hf9, rfl, hr2⟩⟩
      · replace hkR : k < R := by omega
        rw [if_neg (nle (by omega) (by omega) (by omega))]
        by_cases hmax : (1000000 : Int32) ≤ lat
        · right
          rcases hrel with ⟨_, _, rfl, _, _⟩ | ⟨q, hq, rfl, rfl, ⟨rfl, rfl, rfl⟩ | ⟨h, hh, rfl, _, _⟩⟩
          · exact absurd hmax (by decide)
          · rw [if_pos hmax]
            refine ⟨_, rfl, fun f hf9 => ?_⟩
            obtain ⟨b, e, h1, h2, h3⟩ := m_mendRest_n hth hh5 hq hI hW hL (sign := sign) (clause := clause) (clauses := clauses) hf f n9 (y0, y1, y2, T, y3, y4, y5, y6, y7, nn q, (9999 : Int32), nn k) ⟨k, hk, rfl, rfl, rfl, rfl⟩ hf9
            exact ⟨b, e, h1, Or.inr ⟨q, hq, rfl, h2, Or.inl ⟨rfl, h3⟩⟩⟩
          · exact absurd hmax (show ¬ nn 1000000 ≤ nn h from nle (by omega) (by omega) (by omega))
        · left
          obtain ⟨v, e1, e2, hv⟩ := r_needs hI hW hkR
          rw [if_neg hmax, e1, bnd1_s]
          unfold f12_mending_B28
          rw [hI.1.2.2.1, if_neg (nle (by omega) (by omega) (show ¬ R ≤ k by omega)), e2, bnd1_s]
          rcases hv with rfl | rfl
          · rw [if_pos rfl, if_pos rfl, lt_df, lt_df, nn_succ]
            exact ⟨_, _, n9 - 1, rfl, rfl, by omega, k + 1, by omega, rfl, rfl, rfl, hrel⟩
          · obtain ⟨u0, u1, u2, u3, u4, u5, u6, u7, u8, u9, u10, u11, u12, v, SM, w1, w2, w3, w4, w5, w6, w7, w8, g1, f1, f2, hs, h⟩ := r_foreM_n (hb := x0) (wl := x1) (de := x2) (th := t0) (tb := t1) (tr := t2) (tg := t3) (tw := t4) (ts := t5) (tk := t6) (o_brokenRung := x8) (o_brokenHour := x9) (sign := sign) (clause := clause) (clauses := clauses) (st := y0) (tp := y1) (wd := y2) (wil := y3) (mov := y4) (bk := y5) (bh := y7) hkR hth (show h0 < 5000 by omega) hI hW hL hf
            rw [hL.1] at g1
            rw [if_neg (show ¬ (1 : Int32) = 0 by decide), if_neg (show ¬ (1 : Int32) = 0 by decide), g1, bnd13_s, m_keeps, bnd1_s, f1, bnd1_s, f2, bnd9_s]
            unfold f3_findMending_n_J67 f3_findMending_n_J98 f12_mending_J78 f12_mending_J97
            rw [hs.back, bnd1_s, bnd1_s]
            simp only [lt_df, nn_succ]
            rcases h with ⟨rfl, rfl⟩ | ⟨rfl, r, h, hr, rfl, rfl, rfl, rfl, h1, h2⟩
            · rw [if_pos rfl, if_neg (show ¬ (0 : Int32) ≤ -1 by decide)]
              rcases hrel with ⟨rfl, rfl, rfl, rfl, rfl⟩ | ⟨q, hq, rfl, rfl, ⟨rfl, rfl, rfl⟩ | ⟨h, hh, rfl, rfl, rfl⟩⟩
              · rw [if_neg (show ¬ (1000000 : Int32) ≤ -1 by decide), if_pos trivial, if_pos (show (-2 : Int32) < 0 by decide)]
                exact ⟨_, _, n9 - 1, rfl, rfl, by omega, k + 1, by omega, rfl, rfl, rfl, Or.inr ⟨k, hkR, rfl, rfl, Or.inl ⟨rfl, rfl, rfl⟩⟩⟩
              · exact absurd (Int32.le_refl _) hmax
              · rw [if_neg hmax, if_pos trivial, if_neg (nlt0 (by omega)), if_pos (show nn h < (9999 : Int32) from nltT (b := 9999) (by omega) (by omega) (by omega))]
                exact ⟨_, _, n9 - 1, rfl, rfl, by omega, k + 1, by omega, rfl, rfl, rfl, Or.inr ⟨k, hkR, rfl, rfl, Or.inl ⟨rfl, rfl, rfl⟩⟩⟩
            · have hne : ¬ (nn h = (1000000 : Int32)) := nne (b := 1000000) (by omega) (by omega) (by omega)
              rw [if_neg (show ¬ (1 : Int32) = 0 by decide), if_pos (n0le (by omega))]
              rcases hrel with ⟨rfl, rfl, rfl, rfl, rfl⟩ | ⟨q, hq, rfl, rfl, ⟨rfl, rfl, rfl⟩ | ⟨h3, hh, rfl, rfl, rfl⟩⟩
              · rw [if_neg (show ¬ nn h ≤ (-1 : Int32) by rw [nn_lem1 (by omega)]; exact id), if_neg hne, if_pos (show (-2 : Int32) < 0 by decide)]
                exact ⟨_, _, n9 - 1, rfl, rfl, by omega, k + 1, by omega, rfl, rfl, rfl, Or.inr ⟨k, hkR, rfl, rfl, Or.inr ⟨h, by omega, rfl, rfl, rfl⟩⟩⟩
              · exact absurd (Int32.le_refl _) hmax
              · rw [if_neg (nlt0 (show q < 2147483648 by omega))]
                by_cases hle : h ≤ h3
                · rw [if_pos (nleT (by omega) (by omega) hle), if_neg (nlt (by omega) (by omega) (show ¬ h3 < h by omega))]
                  exact ⟨_, _, n9 - 1, rfl, rfl, by omega, k + 1, by omega, rfl, rfl, rfl, Or.inr ⟨q, hq, rfl, rfl, Or.inr ⟨h3, hh, rfl, rfl, rfl⟩⟩⟩
                · rw [if_neg (nle (by omega) (by omega) hle), if_neg hne, if_pos (nltT (by omega) (by omega) (show h3 < h by omega))]
                  exact ⟨_, _, n9 - 1, rfl, rfl, by omega, k + 1, by omega, rfl, rfl, rfl, Or.inr ⟨k, hkR, rfl, rfl, Or.inr ⟨h, by omega, rfl, rfl, rfl⟩⟩⟩)
  obtain ⟨⟨x8, x9, mr, mh, x0, x1, x2, t0, t1, t2, t3, t4, t5, t6⟩, ⟨y0, y1, y2, T, y3, y4, y5, y6, y7, best, lat2⟩, e1, e2, hTS, hrel⟩ := key
  dsimp only at hTS
  subst hTS
  rw [e1, bnd14_s]
  exact ⟨_, _, _, _, _, _, _, _, _, _, _, _, _, _, _, _, _, _, _, _, _, _, _, _,  rfl, e2, hrel⟩
theorem m_mendRest {h0 q : Nat} (hth : hour = nn h0) (hh5 : h0 < 2000) (hq : q < R) (hI : IV R P S) (hW : RWd S hour broken rung grip want slips worn) (hL : RLd R P S rungs people room strength weight told) (hf : ¬ force < 0) (hE : REv nc code ns sumEnd nt testEnd sign clause clauses force) : ∀ (f n9 : Nat) (t : (Nat → Int64) × Int32 × (Nat → Int64) × (Nat → Int32) × (Nat → Int32) × (Nat → Int32) × Int32 × (Nat → Int32) × Int32 × Int32 × Int32 × Int32), (∃ k, n9 + k = R ∧ t.2.2.2.2.2.2.2.2.2.2.2 = nn k ∧ t.2.2.2.1 = S ∧ t.2.2.2.2.2.2.2.2.2.1 = nn q ∧ t.2.2.2.2.2.2.2.2.2.2.1 = (9999 : Int32)) → n9 < f → ∃ b, iter (fun (z : (Nat → Int64) × Int32 × (Nat → Int64) × (Nat → Int32) × (Nat → Int32) × (Nat → Int32) × Int32 × (Nat → Int32) × Int32 × Int32 × Int32 × Int32) => f12_mending_B28 sign clause clauses force z.1 z.2.1 z.2.2.1 z.2.2.2.1 z.2.2.2.2.1 z.2.2.2.2.2.1 z.2.2.2.2.2.2.1 z.2.2.2.2.2.2.2.1 z.2.2.2.2.2.2.2.2.1 z.2.2.2.2.2.2.2.2.2.1 z.2.2.2.2.2.2.2.2.2.2.1 z.2.2.2.2.2.2.2.2.2.2.2) f t = some b ∧ (b.2.2.2.1 = S ∧ b.2.2.2.2.2.2.2.2.2.1 = nn q ∧ b.2.2.2.2.2.2.2.2.2.2 = (9999 : Int32)) := by
  have hR9 := hI.1.1
  refine iter_wf (B := (fun (z : (Nat → Int64) × Int32 × (Nat → Int64) × (Nat → Int32) × (Nat → Int32) × (Nat → Int32) × Int32 × (Nat → Int32) × Int32 × Int32 × Int32 × Int32) => f12_mending_B28 sign clause clauses force z.1 z.2.1 z.2.2.1 z.2.2.2.1 z.2.2.2.2.1 z.2.2.2.2.2.1 z.2.2.2.2.2.2.1 z.2.2.2.2.2.2.2.1 z.2.2.2.2.2.2.2.2.1 z.2.2.2.2.2.2.2.2.2.1 z.2.2.2.2.2.2.2.2.2.2.1 z.2.2.2.2.2.2.2.2.2.2.2)) (I := fun n9 t => ∃ k, n9 + k = R ∧ t.2.2.2.2.2.2.2.2.2.2.2 = nn k ∧ t.2.2.2.1 = S ∧ t.2.2.2.2.2.2.2.2.2.1 = nn q ∧ t.2.2.2.2.2.2.2.2.2.2.1 = (9999 : Int32)) (Po := fun b => b.2.2.2.1 = S ∧ b.2.2.2.2.2.2.2.2.2.1 = nn q ∧ b.2.2.2.2.2.2.2.2.2.2 = (9999 : Int32)) ?_
  rintro n9 ⟨y0, y1, y2, T, y3, y4, y5, y6, y7, y8, y9, j⟩ ⟨k, hk, rfl, hTS, rfl, rfl⟩
  dsimp only at hTS ⊢
  subst hTS
  unfold f12_mending_B28
  rw [hI.1.2.2.1]
  by_cases hkR : R ≤ k
  · right
    rw [if_pos (nleT (by omega) (by omega) hkR)]
    exact ⟨_, rfl, rfl, rfl, rfl⟩
  · left
    replace hkR : k < R := by omega
    obtain ⟨v, -, e2, hv⟩ := r_needs hI hW hkR
    rw [if_neg (nle (by omega) (by omega) (by omega)), e2, bnd1_s]
    rcases hv with rfl | rfl
    · rw [if_pos rfl, lt_df, nn_succ]
      exact ⟨_, n9 - 1, rfl, by omega, k + 1, by omega, rfl, rfl, rfl, rfl⟩
    · obtain ⟨u0, u1, u2, u3, u4, u5, u6, u7, u8, u9, u10, u11, u12, u13, u14, u15, v, SM, w1, w2, w3, w4, w5, w6, w7, w8, -, f1, f2, hs, h⟩ := r_foreM (hb := 0) (wl := T) (de := T) (th := 0) (tb := 0) (tr := T) (tg := T) (tw := T) (ts := T) (tk := T) (o_brokenRung := 0) (o_brokenHour := 0) (wo := y0) (stack := y0) (top := 0) (st := y0) (tp := y1) (wd := y2) (wil := y3) (mov := y4) (bk := y5) (bh := y7) hkR hth (show h0 < 5000 by omega) hI hW hL hf hE
      rw [if_neg (show ¬ (1 : Int32) = 0 by decide), m_keeps, bnd1_s, f1, bnd1_s, f2, bnd9_s]
      unfold f12_mending_J78
      rw [hs.back, bnd1_s, bnd1_s, if_neg (nlt0 (by omega)), if_neg (nlt0 (by omega))]
      rcases h with ⟨-, rfl⟩ | ⟨-, r, h, hr, -, rfl, rfl, -, h1, h2⟩
      · rw [if_neg (show ¬ (0 : Int32) ≤ -1 by decide), if_neg (show ¬ (9999 : Int32) < 9999 by decide), lt_df, nn_succ]
        exact ⟨_, n9 - 1, rfl, by omega, k + 1, by omega, rfl, rfl, rfl, rfl⟩
      · rw [if_pos (n0le (by omega)), if_neg (show ¬ (9999 : Int32) < nn h from nlt (a := 9999) (by omega) (by omega) (by omega)), lt_df, nn_succ]
        exact ⟨_, n9 - 1, rfl, by omega, k + 1, by omega, rfl, rfl, rfl, rfl⟩
theorem r_findM {h0 : Nat} (hth : hour = nn h0) (hh5 : h0 < 2000) (hI : IV R P S) (hW : RWd S hour broken rung grip want slips worn) (hL : RLd R P S rungs people room strength weight told) (hf : ¬ force < 0) (hE : REv nc code ns sumEnd nt testEnd sign clause clauses force) : ∃ br1 bh1 mr1 mh1 hb1 wl1 de1 wo1 h1 b1 rg1 gr1 wt1 sl1 wn1 sk1 tq1 st1 tp1 wd1 wi1 mo1 bk1 kp1 bq1 best lat2, f3_findMending o_brokenRung o_brokenHour o_mendedRung o_mendedHour hb wl de wo th tb tr tg tw ts tk hour broken rung grip want slips worn rungs people room strength weight told nc code ns sumEnd nt testEnd stack top = some (br1, bh1, mr1, mh1, hb1, wl1, de1, wo1, h1, b1, rg1, gr1, wt1, sl1, wn1, sk1, tq1) ∧ iter (fun (z : (Nat → Int64) × Int32 × (Nat → Int64) × (Nat → Int32) × (Nat → Int32) × (Nat → Int32) × Int32 × (Nat → Int32) × Int32 × Int32 × Int32 × Int32) => f12_mending_B28 sign clause clauses force z.1 z.2.1 z.2.2.1 z.2.2.2.1 z.2.2.2.2.1 z.2.2.2.2.2.1 z.2.2.2.2.2.2.1 z.2.2.2.2.2.2.2.1 z.2.2.2.2.2.2.2.2.1 z.2.2.2.2.2.2.2.2.2.1 z.2.2.2.2.2.2.2.2.2.2.1 z.2.2.2.2.2.2.2.2.2.2.2) FUEL (st, tp, wd, S, wil, mov, bk, kept, bh, (-2 : Int32), (0 : Int32), (0 : Int32)) = some (st1, tp1, wd1, S, wi1, mo1, bk1, kp1, bq1, best, lat2) ∧ ((mr1 = -2 ∧ mh1 = -2 ∧ best = -2) ∨ ∃ q, q < R ∧ mr1 = nn q ∧ best = nn q ∧ ((mh1 = -1 ∧ lat2 = (9999 : Int32)) ∨ ∃ h, h < 9000 ∧ mh1 = nn h ∧ lat2 = nn h)) := by
  have hR9 := hI.1.1
  unfold f3_findMending
  have key := iter_twoEF (B := (fun (z : Int32 × Int32 × Int32 × Int32 × Int32 × (Nat → Int32) × (Nat → Int32) × (Nat → Int64) × Int32 × Int32 × (Nat → Int32) × (Nat → Int32) × (Nat → Int32) × (Nat → Int32) × (Nat → Int32) × (Nat → Int64) × Int32 × Int32 × Int32) => f3_findMending_B17 rungs broken worn hour rung grip want slips people room strength weight told nc code ns sumEnd nt testEnd z.1 z.2.1 z.2.2.1 z.2.2.2.1 z.2.2.2.2.1 z.2.2.2.2.2.1 z.2.2.2.2.2.2.1 z.2.2.2.2.2.2.2.1 z.2.2.2.2.2.2.2.2.1 z.2.2.2.2.2.2.2.2.2.1 z.2.2.2.2.2.2.2.2.2.2.1 z.2.2.2.2.2.2.2.2.2.2.2.1 z.2.2.2.2.2.2.2.2.2.2.2.2.1 z.2.2.2.2.2.2.2.2.2.2.2.2.2.1 z.2.2.2.2.2.2.2.2.2.2.2.2.2.2.1 z.2.2.2.2.2.2.2.2.2.2.2.2.2.2.2.1 z.2.2.2.2.2.2.2.2.2.2.2.2.2.2.2.2.1 z.2.2.2.2.2.2.2.2.2.2.2.2.2.2.2.2.2.1 z.2.2.2.2.2.2.2.2.2.2.2.2.2.2.2.2.2.2)) (C := (fun (z : (Nat → Int64) × Int32 × (Nat → Int64) × (Nat → Int32) × (Nat → Int32) × (Nat → Int32) × Int32 × (Nat → Int32) × Int32 × Int32 × Int32 × Int32) => f12_mending_B28 sign clause clauses force z.1 z.2.1 z.2.2.1 z.2.2.2.1 z.2.2.2.2.1 z.2.2.2.2.2.1 z.2.2.2.2.2.2.1 z.2.2.2.2.2.2.2.1 z.2.2.2.2.2.2.2.2.1 z.2.2.2.2.2.2.2.2.2.1 z.2.2.2.2.2.2.2.2.2.2.1 z.2.2.2.2.2.2.2.2.2.2.2)) (s := (o_brokenRung, o_brokenHour, (-2 : Int32), (-2 : Int32), hb, wl, de, wo, th, tb, tr, tg, tw, ts, tk, stack, top, (-1 : Int32), (0 : Int32))) (t := (st, tp, wd, S, wil, mov, bk, kept, bh, (-2 : Int32), (0 : Int32), (0 : Int32))) (n := R)
    (I := fun n9 a b => ∃ k, n9 + k = R ∧ a.2.2.2.2.2.2.2.2.2.2.2.2.2.2.2.2.2.2 = nn k ∧ b.2.2.2.2.2.2.2.2.2.2.2 = nn k ∧ b.2.2.2.1 = S ∧ ((a.2.2.1 = -2 ∧ a.2.2.2.1 = -2 ∧ a.2.2.2.2.2.2.2.2.2.2.2.2.2.2.2.2.2.1 = -1 ∧ b.2.2.2.2.2.2.2.2.2.1 = -2 ∧ b.2.2.2.2.2.2.2.2.2.2.1 = 0) ∨ ∃ q, q < R ∧ a.2.2.1 = nn q ∧ b.2.2.2.2.2.2.2.2.2.1 = nn q ∧ ((a.2.2.2.2.2.2.2.2.2.2.2.2.2.2.2.2.2.1 = (1000000 : Int32) ∧ a.2.2.2.1 = -1 ∧ b.2.2.2.2.2.2.2.2.2.2.1 = (9999 : Int32)) ∨ ∃ h, h < 9000 ∧ a.2.2.2.2.2.2.2.2.2.2.2.2.2.2.2.2.2.1 = nn h ∧ a.2.2.2.1 = nn h ∧ b.2.2.2.2.2.2.2.2.2.2.1 = nn h)))
    (Po := fun a b => b.2.2.2.1 = S ∧ ((a.2.2.1 = -2 ∧ a.2.2.2.1 = -2 ∧ b.2.2.2.2.2.2.2.2.2.1 = -2) ∨ ∃ q, q < R ∧ a.2.2.1 = nn q ∧ b.2.2.2.2.2.2.2.2.2.1 = nn q ∧ ((a.2.2.2.1 = -1 ∧ b.2.2.2.2.2.2.2.2.2.2 = (9999 : Int32)) ∨ ∃ h, h < 9000 ∧ a.2.2.2.1 = nn h ∧ b.2.2.2.2.2.2.2.2.2.2 = nn h)))
    ⟨0, rfl, rfl, rfl, rfl, Or.inl ⟨rfl, rfl, rfl, rfl, rfl⟩⟩ (by omega)
    (by
      rintro n9 ⟨x8, x9, mr, mh, x0, x1, x2, x3, t0, t1, t2, t3, t4, t5, t6, xs, xt, lat, i⟩ ⟨y0, y1, y2, T, y3, y4, y5, y6, y7, best, lat2, j⟩ ⟨k, hk, rfl, rfl, hTS, hrel⟩
      dsimp only at hTS hrel ⊢
      subst hTS
      unfold f3_findMending_B17
      rw [hL.1]
      have hr2 : ((mr = -2 ∧ mh = -2 ∧ best = -2) ∨ ∃ q, q < R ∧ mr = nn q ∧ best = nn q ∧ ((mh = -1 ∧ lat2 = (9999 : Int32)) ∨ ∃ h, h < 9000 ∧ mh = nn h ∧ lat2 = nn h)) := by
        rcases hrel with ⟨h1, h2, _, h3, _⟩ | ⟨q, hq, h1, h2, ⟨_, h3, h4⟩ | ⟨h, hh, _, h3, h4⟩⟩
        · exact Or.inl ⟨h1, h2, h3⟩
        · exact Or.inr ⟨q, hq, h1, h2, Or.inl ⟨h3, h4⟩⟩
        · exact Or.inr ⟨q, hq, h1, h2, Or.inr ⟨h, hh, h3, h4⟩⟩
      by_cases hkR : R ≤ k
      · right
        rw [if_pos (nleT (by omega) (by omega) hkR)]
        exact ⟨_, rfl, fun f hf9 => ⟨_, iter_done (by dsimp only; unfold f12_mending_B28; rw [hI.1.2.2.1, if_pos (nleT (by omega) (by omega) hkR)]) hf9, rfl, hr2⟩⟩
      · replace hkR : k < R := by omega
        rw [if_neg (nle (by omega) (by omega) (by omega))]
        by_cases hmax : (1000000 : Int32) ≤ lat
        · right
          rcases hrel with ⟨_, _, rfl, _, _⟩ | ⟨q, hq, rfl, rfl, ⟨rfl, rfl, rfl⟩ | ⟨h, hh, rfl, _, _⟩⟩
          · exact absurd hmax (by decide)
          · rw [if_pos hmax]
            refine ⟨_, rfl, fun f hf9 => ?_⟩
            obtain ⟨b, e, h1, h2, h3⟩ := m_mendRest hth hh5 hq hI hW hL hf hE f n9 (y0, y1, y2, T, y3, y4, y5, y6, y7, nn q, (9999 : Int32), nn k) ⟨k, hk, rfl, rfl, rfl, rfl⟩ hf9
            exact ⟨b, e, h1, Or.inr ⟨q, hq, rfl, h2, Or.inl ⟨rfl, h3⟩⟩⟩
          · exact absurd hmax (show ¬ nn 1000000 ≤ nn h from nle (by omega) (by omega) (by omega))
        · left
          obtain ⟨v, e1, e2, hv⟩ := r_needs hI hW hkR
          rw [if_neg hmax, e1, bnd1_s]
          unfold f12_mending_B28
          rw [hI.1.2.2.1, if_neg (nle (by omega) (by omega) (show ¬ R ≤ k by omega)), e2, bnd1_s]
          rcases hv with rfl | rfl
          · rw [if_pos rfl, if_pos rfl, lt_df, lt_df, nn_succ]
            exact ⟨_, _, n9 - 1, rfl, rfl, by omega, k + 1, by omega, rfl, rfl, rfl, hrel⟩
          · obtain ⟨u0, u1, u2, u3, u4, u5, u6, u7, u8, u9, u10, u11, u12, u13, u14, u15, v, SM, w1, w2, w3, w4, w5, w6, w7, w8, g1, f1, f2, hs, h⟩ := r_foreM (hb := x0) (wl := x1) (de := x2) (th := t0) (tb := t1) (tr := t2) (tg := t3) (tw := t4) (ts := t5) (tk := t6) (o_brokenRung := x8) (o_brokenHour := x9) (wo := x3) (stack := xs) (top := xt) (st := y0) (tp := y1) (wd := y2) (wil := y3) (mov := y4) (bk := y5) (bh := y7) hkR hth (show h0 < 5000 by omega) hI hW hL hf hE
            rw [hL.1] at g1
            rw [if_neg (show ¬ (1 : Int32) = 0 by decide), if_neg (show ¬ (1 : Int32) = 0 by decide), g1, bnd16_s, m_keeps, bnd1_s, f1, bnd1_s, f2, bnd9_s]
            unfold f3_findMending_J67 f3_findMending_J98 f12_mending_J78 f12_mending_J97
            rw [hs.back, bnd1_s, bnd1_s]
            simp only [lt_df, nn_succ]
            rcases h with ⟨rfl, rfl⟩ | ⟨rfl, r, h, hr, rfl, rfl, rfl, rfl, h1, h2⟩
            · rw [if_pos rfl, if_neg (show ¬ (0 : Int32) ≤ -1 by decide)]
              rcases hrel with ⟨rfl, rfl, rfl, rfl, rfl⟩ | ⟨q, hq, rfl, rfl, ⟨rfl, rfl, rfl⟩ | ⟨h, hh, rfl, rfl, rfl⟩⟩
              · rw [if_neg (show ¬ (1000000 : Int32) ≤ -1 by decide), if_pos trivial, if_pos (show (-2 : Int32) < 0 by decide)]
                exact ⟨_, _, n9 - 1, rfl, rfl, by omega, k + 1, by omega, rfl, rfl, rfl, Or.inr ⟨k, hkR, rfl, rfl, Or.inl ⟨rfl, rfl, rfl⟩⟩⟩
              · exact absurd (Int32.le_refl _) hmax
              · rw [if_neg hmax, if_pos trivial, if_neg (nlt0 (by omega)), if_pos (show nn h < (9999 : Int32) from nltT (b := 9999) (by omega) (by omega) (by omega))]
                exact ⟨_, _, n9 - 1, rfl, rfl, by omega, k + 1, by omega, rfl, rfl, rfl, Or.inr ⟨k, hkR, rfl, rfl, Or.inl ⟨rfl, rfl, rfl⟩⟩⟩
            · have hne : ¬ (nn h = (1000000 : Int32)) := nne (b := 1000000) (by omega) (by omega) (by omega)
              rw [if_neg (show ¬ (1 : Int32) = 0 by decide), if_pos (n0le (by omega))]
              rcases hrel with ⟨rfl, rfl, rfl, rfl, rfl⟩ | ⟨q, hq, rfl, rfl, ⟨rfl, rfl, rfl⟩ | ⟨h3, hh, rfl, rfl, rfl⟩⟩
              · rw [if_neg (show ¬ nn h ≤ (-1 : Int32) by rw [nn_lem1 (by omega)]; exact id), if_neg hne, if_pos (show (-2 : Int32) < 0 by decide)]
                exact ⟨_, _, n9 - 1, rfl, rfl, by omega, k + 1, by omega, rfl, rfl, rfl, Or.inr ⟨k, hkR, rfl, rfl, Or.inr ⟨h, by omega, rfl, rfl, rfl⟩⟩⟩
              · exact absurd (Int32.le_refl _) hmax
              · rw [if_neg (nlt0 (show q < 2147483648 by omega))]
                by_cases hle : h ≤ h3
                · rw [if_pos (nleT (by omega) (by omega) hle), if_neg (nlt (by omega) (by omega) (show ¬ h3 < h by omega))]
                  exact ⟨_, _, n9 - 1, rfl, rfl, by omega, k + 1, by omega, rfl, rfl, rfl, Or.inr ⟨q, hq, rfl, rfl, Or.inr ⟨h3, hh, rfl, rfl, rfl⟩⟩⟩
                · rw [if_neg (nle (by omega) (by omega) hle), if_neg hne, if_pos (nltT (by omega) (by omega) (show h3 < h by omega))]
                  exact ⟨_, _, n9 - 1, rfl, rfl, by omega, k + 1, by omega, rfl, rfl, rfl, Or.inr ⟨k, hkR, rfl, rfl, Or.inr ⟨h, by omega, rfl, rfl, rfl⟩⟩⟩)
  obtain ⟨⟨x8, x9, mr, mh, x0, x1, x2, x3, t0, t1, t2, t3, t4, t5, t6, xs, xt⟩, ⟨y0, y1, y2, T, y3, y4, y5, y6, y7, best, lat2⟩, e1, e2, hTS, hrel⟩ := key
  dsimp only at hTS
  subst hTS
  rw [e1, bnd17_s]
  exact ⟨_, _, _, _, _, _, _, _, _, _, _, _, _, _, _, _, _, _, _, _, _, _, _, _, _, _, _,  rfl, e2, hrel⟩
end
