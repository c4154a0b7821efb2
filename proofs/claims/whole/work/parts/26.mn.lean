/-! the words of a person -/
theorem g13_0 : ((0 : Int32) < 0 ∨ 13 ≤ Int32.toNatClampNeg (0 : Int32)) = False := eq_false (by decide)
theorem g13_1 : ((1 : Int32) < 0 ∨ 13 ≤ Int32.toNatClampNeg (1 : Int32)) = False := eq_false (by decide)
theorem g13_2 : ((2 : Int32) < 0 ∨ 13 ≤ Int32.toNatClampNeg (2 : Int32)) = False := eq_false (by decide)
theorem g13_3 : ((3 : Int32) < 0 ∨ 13 ≤ Int32.toNatClampNeg (3 : Int32)) = False := eq_false (by decide)
theorem g13_4 : ((4 : Int32) < 0 ∨ 13 ≤ Int32.toNatClampNeg (4 : Int32)) = False := eq_false (by decide)
theorem g13_5 : ((5 : Int32) < 0 ∨ 13 ≤ Int32.toNatClampNeg (5 : Int32)) = False := eq_false (by decide)
theorem g13_6 : ((6 : Int32) < 0 ∨ 13 ≤ Int32.toNatClampNeg (6 : Int32)) = False := eq_false (by decide)
theorem g13_7 : ((7 : Int32) < 0 ∨ 13 ≤ Int32.toNatClampNeg (7 : Int32)) = False := eq_false (by decide)
theorem g13_8 : ((8 : Int32) < 0 ∨ 13 ≤ Int32.toNatClampNeg (8 : Int32)) = False := eq_false (by decide)
theorem g13_9 : ((9 : Int32) < 0 ∨ 13 ≤ Int32.toNatClampNeg (9 : Int32)) = False := eq_false (by decide)
theorem g13_10 : ((10 : Int32) < 0 ∨ 13 ≤ Int32.toNatClampNeg (10 : Int32)) = False := eq_false (by decide)
theorem g13_11 : ((11 : Int32) < 0 ∨ 13 ≤ Int32.toNatClampNeg (11 : Int32)) = False := eq_false (by decide)
theorem g13_12 : ((12 : Int32) < 0 ∨ 13 ≤ Int32.toNatClampNeg (12 : Int32)) = False := eq_false (by decide)
def wV (S : Nat → Int32) (P p x : Nat) : Nat → Int64
  | 0 => Int32.toInt64 (nn p)
  | 1 => Int32.toInt64 (nn x)
  | 2 => Int32.toInt64 (S (48 + 4 * p))
  | 3 => Int32.toInt64 (S (62 + 2 * p))
  | 4 => Int32.toInt64 (S (47 + 4 * p))
  | 5 => Int32.toInt64 (S (63 + 2 * p))
  | 6 => Int32.toInt64 (S 2)
  | 7 => Int32.toInt64 (nn (crF (gR S) (nn x) P) - 1)
  | 8 => if sBes S (nn x) 1 = -1 then -1 else Int32.toInt64 (nn (crF (gR S) (sBes S (nn x) 1) P))
  | 9 => if sBes S (nn x) (-1) = -1 then -1 else Int32.toInt64 (nn (crF (gR S) (sBes S (nn x) (-1)) P))
  | 10 => Int32.toInt64 (S (12 + 4 * x))
  | 11 => Int32.toInt64 (S (11 + 4 * x))
  | _ => Int32.toInt64 (S (49 + 4 * p))
theorem all13 {q : Nat → Prop} (h0 : q 0) (h1 : q 1) (h2 : q 2) (h3 : q 3) (h4 : q 4) (h5 : q 5) (h6 : q 6) (h7 : q 7) (h8 : q 8) (h9 : q 9) (h10 : q 10) (h11 : q 11) (h12 : q 12) : ∀ i, i < 13 → q i
  | 0, _ => h0 | 1, _ => h1 | 2, _ => h2 | 3, _ => h3 | 4, _ => h4 | 5, _ => h5 | 6, _ => h6 | 7, _ => h7 | 8, _ => h8 | 9, _ => h9 | 10, _ => h10 | 11, _ => h11 | 12, _ => h12
  | n + 13, h => absurd h (by omega)
section
variable {S : Nat → Int32} {R P : Nat} {hour broken rungs people : Int32} {rung grip want slips worn room strength weight told : Nat → Int32}
theorem c_tell157 {z : Nat → Int64} {p x : Nat} (hI : IV R P S) (hW : RWd S hour broken rung grip want slips worn) (hL : RLd R P S rungs people room strength weight told) (hp : p < P) (hx : x < R) (y : Int64) : f10_tellWords_J157 13 worn strength (nn p) slips z (nn x) 9 y = some (vp_updL (vp_updL (vp_updL (vp_updL z 9 y) 10 (Int32.toInt64 (S (12 + 4 * x)))) 11 (Int32.toInt64 (S (11 + 4 * x)))) 12 (Int32.toInt64 (S (49 + 4 * p)))) := by
  have hR9 := hI.1.1
  have hP4 := hI.1.2.1
  have cx : (nn x < 0 ∨ 9 ≤ x) = False := eq_false (ng (by omega) (by omega))
  have c0 : (nn p < 0 ∨ 4 ≤ p) = False := eq_false (ng (by omega) (by omega))
  unfold f10_tellWords_J157
  simp only [g13_0, g13_1, g13_2, g13_3, g13_4, g13_5, g13_6, g13_7, g13_8, g13_9, g13_10, g13_11, g13_12, if_false, lt_df, nn_nat (show x < 2147483648 by omega), nn_nat (show p < 2147483648 by omega), cx, c0]
  rw [hW.2.2.2.2.2.2 x (by omega), hL.2.2.2.1 x hx, hW.2.2.2.2.2.1 p (by omega)]
  rfl
theorem c_tell {z : Nat → Int64} {p x : Nat} (hI : IV R P S) (hW : RWd S hour broken rung grip want slips worn) (hL : RLd R P S rungs people room strength weight told) (hp : p < P) (hx : x < R) (hxx : S (46 + 4 * p) = nn x) : ∃ w, f10_tellWords hour broken rung grip want slips worn rungs people strength weight told 13 z (nn p) = some w ∧ ∀ i, i < 13 → w i = wV S P p x i := by
  have hR9 := hI.1.1
  have hP4 := hI.1.2.1
  have c0 : (nn p < 0 ∨ 4 ≤ p) = False := eq_false (ng (by omega) (by omega))
  have h13 : ((13 : Int32) ≤ Int32.ofNat 13) = True := eq_true (by decide)
  have hx0 : (nn x < 0) = False := nn_lt0 (by omega)
  unfold f10_tellWords
  simp only [nn_nat (show p < 2147483648 by omega), c0, if_false, lt_df]
  rw [hW.2.2.1 p (by omega), hxx, hL.1, hL.2.1, c_beside hI.1.2.2.1 hR9 hW.2.1, c_beside hI.1.2.2.1 hR9 hW.2.1]
  simp only [g13_0, g13_1, g13_2, g13_3, g13_4, g13_5, g13_6, g13_7, g13_8, g13_9, g13_10, g13_11, g13_12, hx0, h13, if_false, if_true, bnd1_s]
  rw [c_crowdOn hP4, crF_congr (g' := gR S) (fun p hp => hW.2.2.1 p (by omega)), hW.2.2.2.2.1 p (by omega), hL.2.2.2.2.1 p hp, hW.2.2.2.1 p (by omega), hL.2.2.2.2.2 p hp, hW.1]
  simp only [bnd1_s]
  unfold f10_tellWords_J134
  simp only [g13_0, g13_1, g13_2, g13_3, g13_4, g13_5, g13_6, g13_7, g13_8, g13_9, g13_10, g13_11, g13_12, if_false, lt_df]
  rcases sBes_cases hI.1.2.2.1 hR9 (nn x) 1 with e1 | ⟨u, hu, e1, _⟩ <;> rcases sBes_cases hI.1.2.2.1 hR9 (nn x) (-1) with e2 | ⟨d, hd, e2, _⟩
  · rw [e1, e2, if_pos rfl, if_pos rfl, c_tell157 hI hW hL hp hx]
    exact ⟨_, rfl, all13 rfl rfl rfl rfl rfl rfl rfl rfl (by simp only [wV, e1]; rfl) (by simp only [wV, e2]; rfl) rfl rfl rfl⟩
  · rw [e1, e2, if_pos rfl, if_neg (nn_ne_m1 (by omega)), c_crowdOn hP4, crF_congr (g := rung) (g' := gR S) (fun p hp => hW.2.2.1 p (by omega)), bnd1_s, c_tell157 hI hW hL hp hx]
    exact ⟨_, rfl, all13 rfl rfl rfl rfl rfl rfl rfl rfl (by simp only [wV, e1]; rfl) (by simp only [wV, e2]; rw [if_neg (nn_ne_m1 (by omega))]; rfl) rfl rfl rfl⟩
  · rw [e1, if_neg (nn_ne_m1 (by omega)), c_crowdOn hP4, crF_congr (g := rung) (g' := gR S) (fun p hp => hW.2.2.1 p (by omega)), bnd1_s, e2, if_pos rfl, c_tell157 hI hW hL hp hx]
    exact ⟨_, rfl, all13 rfl rfl rfl rfl rfl rfl rfl rfl (by simp only [wV, e1]; rw [if_neg (nn_ne_m1 (by omega))]; rfl) (by simp only [wV, e2]; rfl) rfl rfl rfl⟩
  · rw [e1, if_neg (nn_ne_m1 (by omega)), c_crowdOn hP4, crF_congr (g := rung) (g' := gR S) (fun p hp => hW.2.2.1 p (by omega)), bnd1_s, e2, if_neg (nn_ne_m1 (by omega)), c_crowdOn hP4, crF_congr (g := rung) (g' := gR S) (fun p hp => hW.2.2.1 p (by omega)), bnd1_s, c_tell157 hI hW hL hp hx]
    exact ⟨_, rfl, all13 rfl rfl rfl rfl rfl rfl rfl rfl (by simp only [wV, e1]; rw [if_neg (nn_ne_m1 (by omega))]; rfl) (by simp only [wV, e2]; rw [if_neg (nn_ne_m1 (by omega))]; rfl) rfl rfl rfl⟩
theorem m_words164 {z : Nat → Int64} {p x : Nat} (hI : IV R P S) (hp : p < P) (hx : x < R) (y : Int64) : f12_words_J164 S (nn p) z (nn x) 9 y = some (vp_updL (vp_updL (vp_updL (vp_updL z 9 y) 10 (Int32.toInt64 (S (12 + 4 * x)))) 11 (Int32.toInt64 (S (11 + 4 * x)))) 12 (Int32.toInt64 (S (49 + 4 * p)))) := by
  have hR9 := hI.1.1
  have hP4 := hI.1.2.1
  unfold f12_words_J164
  simp only [g13_9, if_false, lt_df]
  rw [m_r2 (by omega), m_r1 (by omega), m_p3 (by omega)]
  rfl
theorem m_words {z : Nat → Int64} {p x : Nat} (hI : IV R P S) (hp : p < P) (hx : x < R) (hxx : S (46 + 4 * p) = nn x) : ∃ w, f12_words z S (nn p) = some w ∧ ∀ i, i < 13 → w i = wV S P p x i := by
  have hR9 := hI.1.1
  have hP4 := hI.1.2.1
  unfold f12_words
  rw [m_p0 (by omega), hxx, m_p1 (by omega), m_p2 (by omega), m_weightOf (by omega), m_gripTold (by omega)]
  simp only [bnd1_s, lt_df]
  rw [m_beside hI.1.2.2.1 hR9, m_beside hI.1.2.2.1 hR9]
  simp only [bnd1_s]
  rw [m_standing hI.1.2.2.2.1 hP4]
  simp only [bnd1_s]
  unfold f12_words_J139
  simp only [g13_8, if_false, lt_df]
  rcases sBes_cases hI.1.2.2.1 hR9 (nn x) 1 with e1 | ⟨u, hu, e1, _⟩ <;> rcases sBes_cases hI.1.2.2.1 hR9 (nn x) (-1) with e2 | ⟨d, hd, e2, _⟩
  · rw [e1, e2, if_neg (show ¬ (0 : Int32) ≤ -1 by decide), if_neg (show ¬ (0 : Int32) ≤ -1 by decide), m_words164 hI hp hx]
    exact ⟨_, rfl, all13 rfl rfl rfl rfl rfl rfl rfl rfl (by simp only [wV, e1]; rfl) (by simp only [wV, e2]; rfl) rfl rfl rfl⟩
  · rw [e1, e2, if_neg (show ¬ (0 : Int32) ≤ -1 by decide), if_pos (n0le (by omega)), m_standing hI.1.2.2.2.1 hP4, bnd1_s, m_words164 hI hp hx]
    exact ⟨_, rfl, all13 rfl rfl rfl rfl rfl rfl rfl rfl (by simp only [wV, e1]; rfl) (by simp only [wV, e2]; rw [if_neg (nn_ne_m1 (by omega))]; rfl) rfl rfl rfl⟩
  · rw [e1, if_pos (n0le (by omega)), m_standing hI.1.2.2.2.1 hP4, bnd1_s, e2, if_neg (show ¬ (0 : Int32) ≤ -1 by decide), m_words164 hI hp hx]
    exact ⟨_, rfl, all13 rfl rfl rfl rfl rfl rfl rfl rfl (by simp only [wV, e1]; rw [if_neg (nn_ne_m1 (by omega))]; rfl) (by simp only [wV, e2]; rfl) rfl rfl rfl⟩
  · rw [e1, if_pos (n0le (by omega)), m_standing hI.1.2.2.2.1 hP4, bnd1_s, e2, if_pos (n0le (by omega)), m_standing hI.1.2.2.2.1 hP4, bnd1_s, m_words164 hI hp hx]
    exact ⟨_, rfl, all13 rfl rfl rfl rfl rfl rfl rfl rfl (by simp only [wV, e1]; rw [if_neg (nn_ne_m1 (by omega))]; rfl) (by simp only [wV, e2]; rw [if_neg (nn_ne_m1 (by omega))]; rfl) rfl rfl rfl⟩
/-- a rule of the class and one of the reference that wish the same of every row of words -/
def REv (nc : Nat) (code : Nat → Int32) (ns : Nat) (sumEnd : Nat → Int32) (nt : Nat) (testEnd : Nat → Int32) (sign clause clauses : Nat → Int32) (k : Int32) : Prop :=
  ∀ (w w2 stack st : Nat → Int64) (top tp : Int32), (∀ i, i < 13 → w i = w2 i) → ∃ (v : Int32) (u : Int64) (stack' st' : Nat → Int64) (top' tp' : Int32), f5_wish nc code ns sumEnd nt testEnd stack top 13 w = some (v, stack', top') ∧ f12_summedBy sign clause clauses st tp w2 k = some (u, st', tp') ∧ (if (lg_cmp u (0 : Int64)) ≤ 0 then (if 0 ≤ (lg_cmp u (0 : Int64)) then (0 : Int32) else -1) else 1) = v
theorem r_will {p nc ns nt : Nat} {code sumEnd testEnd sign clause clauses : Nat → Int32} {words stack st wd : Nat → Int64} {top tp force : Int32} (hI : IV R P S) (hW : RWd S hour broken rung grip want slips worn) (hL : RLd R P S rungs people room strength weight told) (hf : ¬ force < 0) (hE : REv nc code ns sumEnd nt testEnd sign clause clauses force) (hp : p < P) : ∃ v words' stack' top' st' tp' wd', f0_willOf words hour broken rung grip want slips worn rungs people strength weight told nc code ns sumEnd nt testEnd stack top (nn p) = some (v, words', stack', top') ∧ f12_willOf sign clause clauses st tp wd S force (nn p) = some (v, st', tp', wd') ∧ (v = 0 ∨ v = 1 ∨ v = -1) := by
  have hR9 := hI.1.1
  have hP4 := hI.1.2.1
  have hp4 : p < 4 := by omega
  unfold f0_willOf f12_willOf
  rw [m_p0 hp4, m_p2 hp4]
  rcases (hI.2.1 p hp).cases with hx | ⟨x, hx, hxx⟩
  · rw [c_fallen1 hp4 ((hW.2.2.1 p hp4).trans hx), m_up0 hp4 hx]
    simp only [bnd1_s]
    rw [if_neg (show ¬ (1 : Int32) = 0 by decide), if_pos trivial]
    exact ⟨0, _, _, _, _, _, _, rfl, rfl, Or.inl rfl⟩
  · rw [c_fallen0 hp4 (show x < 2147483648 by omega) ((hW.2.2.1 p hp4).trans hxx), m_up1 hp4 (show x < 2147483648 by omega) hxx]
    simp only [bnd1_s, lt_df]
    rw [if_pos trivial, if_neg (show ¬ (1 : Int32) = 0 by decide), if_neg hf]
    obtain ⟨w, e1, hw⟩ := c_tell (z := words) hI hW hL hp hx hxx
    obtain ⟨w2, e2, hw2⟩ := m_words (z := wd) hI hp hx hxx
    rw [e1, e2, bnd1_s, bnd1_s]
    obtain ⟨v, u, stack', st', top', tp', f1, f2, f3⟩ := hE w w2 stack st top tp (fun i hi => (hw i hi).trans (hw2 i hi).symm)
    rw [f1, f2]
    simp only [bnd3_s]
    refine ⟨v, w, stack', top', st', tp', w2, rfl, ?_, ?_⟩
    · unfold f12_willOf_J46
      rw [← f3]
      split
      · split <;> rfl
      · rfl
    · rw [← f3]
      split
      · split
        · exact Or.inl rfl
        · exact Or.inr (Or.inr rfl)
      · exact Or.inr (Or.inl rfl)
/-- an hour by a rule -/
theorem r_spend {nc ns nt : Nat} {hb0 bk0 top tp force : Int32} {will0 deed0 wil0 moved0 code sumEnd testEnd sign clause clauses : Nat → Int32} {words stack st wd : Nat → Int64} (hI : IV R P S) (hW : RWd S hour broken rung grip want slips worn) (hL : RLd R P S rungs people room strength weight told) (hf : ¬ force < 0) (hE : REv nc code ns sumEnd nt testEnd sign clause clauses force) :
    ∃ v br will' deed' words' b' rung' grip' slips' worn' stack' top' st' tp' wd' S' wil' moved', f0_spend hb0 will0 deed0 words hour broken rung grip want slips worn rungs people room strength weight told nc code ns sumEnd nt testEnd stack top = some (v, br, will', deed', words', hour + 1, b', rung', grip', slips', worn', stack', top') ∧ f12_passes sign clause clauses st tp wd S force wil0 moved0 bk0 = some (v, st', tp', wd', S', wil', moved', br) ∧ RWd S' (hour + 1) b' rung' grip' want slips' worn' ∧ IV R P S' ∧ St S S' ∧ (br = -1 ∨ ∃ r, r < R ∧ br = nn r) := by
  have hP4 := hI.1.2.1
  unfold f0_spend f12_passes
  have key := iter_twoF (B := fun (z : (Nat → Int32) × (Nat → Int32) × (Nat → Int64) × (Nat → Int64) × Int32 × Int32) => f0_spend_B11 people hour broken rung grip want slips worn rungs strength weight told nc code ns sumEnd nt testEnd z.1 z.2.1 z.2.2.1 z.2.2.2.1 z.2.2.2.2.1 z.2.2.2.2.2) (C := fun (z : (Nat → Int64) × Int32 × (Nat → Int64) × (Nat → Int32) × (Nat → Int32) × Int32) => f12_passes_B2 S sign clause clauses force z.1 z.2.1 z.2.2.1 z.2.2.2.1 z.2.2.2.2.1 z.2.2.2.2.2) (s := (will0, deed0, words, stack, top, (0 : Int32))) (t := (st, tp, wd, wil0, moved0, (0 : Int32))) (n := P)
    (I := fun n a b => ∃ k, n + k = P ∧ a.2.2.2.2.2 = nn k ∧ b.2.2.2.2.2 = nn k ∧ ∀ q, q < k → WIp a.1 b.2.2.2.1 q ∧ DEp a.2.1 b.2.2.2.2.1 q)
    (Po := fun a b => ∀ q, q < P → WIp a.1 b.2.2.2.1 q ∧ DEp a.2.1 b.2.2.2.2 q)
    ⟨0, rfl, rfl, rfl, fun q hq => by omega⟩ (by omega)
    (by
      rintro n ⟨wi, de, wo, sk, tq, i⟩ ⟨st1, tp1, wd1, wi1, mo1, i1⟩ ⟨k, hk, rfl, rfl, hq0⟩
      dsimp only at hq0 ⊢
      unfold f0_spend_B11 f12_passes_B2
      rw [hI.1.2.2.2.1]
      by_cases hkP : P ≤ k
      · right
        rw [hL.2.1, if_pos (nleT (by omega) (by omega) hkP), if_pos (nleT (by omega) (by omega) hkP)]
        exact ⟨_, _, rfl, rfl, fun q hq => hq0 q (by omega)⟩
      · left
        have hc0 : ¬ (nn k < 0 ∨ 4 ≤ k) := ng (by omega) (by omega)
        obtain ⟨v, words', stack', top', st', tp', wd', e1, e2, hv⟩ := r_will (words := wo) (stack := sk) (top := tq) (st := st1) (wd := wd1) (tp := tp1) hI hW hL hf hE (show k < P by omega)
        rw [e1, e2, hL.2.1, if_neg (nle (by omega) (by omega) hkP), if_neg (nle (by omega) (by omega) hkP)]
        simp only [bnd4_s, lt_df, nn_succ]
        rw [nn_nat (by omega), if_neg hc0, if_neg hc0]
        refine ⟨_, _, n - 1, rfl, by rw [if_neg hc0, if_neg hc0], by omega, k + 1, by omega, rfl, rfl, fun q hq => ?_⟩
        dsimp only
        unfold WIp DEp
        by_cases e : q = k
        · subst e; rw [upd_at, upd_at, upd_at, upd_at]; exact ⟨⟨rfl, hv⟩, rfl, Or.inl rfl⟩
        · rw [upd_ne e, upd_ne e, upd_ne e, upd_ne e]; exact hq0 q (by omega))
  obtain ⟨⟨will1, deed1, words1, stack1, top1⟩, ⟨st1, tp1, wd1, wil1, moved1⟩, e1, e2, hq⟩ := key
  rw [e1, e2]
  obtain ⟨deed2, rung1, moved2, S1, v, br, b2, rung2, slips2, worn2, S2, rung3, grip3, slips3, v3, S3, f1, f2, f3, f4, f5, f6, h1, h2, h3, h4⟩ := r_hour2 (hb0 := hb0) (bk0 := bk0) hI hW hL (fun q h => (hq q h).2) (fun q h => (hq q h).1)
  simp only [bnd5_s]
  rw [f1, f2]
  simp only [bnd2_s]
  rw [f3, f4]
  simp only [bnd6_s, bnd3_s]
  rw [f5, f6]
  exact ⟨v3, br, will1, deed2, words1, b2, rung3, grip3, slips3, worn2, stack1, top1, st1, tp1, wd1, _, wil1, moved2, rfl, rfl, h1, h2, h3, h4⟩
end
