/-! counting and noting -/
section
variable {S S' : Nat → Int32} {R P : Nat} {hour broken rungs people : Int32} {rung grip want slips worn room strength weight told : Nat → Int32}
def Lo (S S' : Nat → Int32) : Prop := ∀ k, k < 79 → S' k = S k
theorem RWd.lo (h : RWd S hour broken rung grip want slips worn) (e : Lo S S') : RWd S' hour broken rung grip want slips worn :=
  ⟨h.1.trans (e 2 (by decide)).symm, h.2.1.of (fun r hr => e _ (by omega)), fun p hp => (h.2.2.1 p hp).trans (e _ (by omega)).symm, fun p hp => (h.2.2.2.1 p hp).trans (e _ (by omega)).symm, fun p hp => (h.2.2.2.2.1 p hp).trans (e _ (by omega)).symm, fun p hp => (h.2.2.2.2.2.1 p hp).trans (e _ (by omega)).symm, fun r hr => (h.2.2.2.2.2.2 r hr).trans (e _ (by omega)).symm⟩
theorem RLd.lo (hR9 : R < 10) (hP4 : P < 5) (h : RLd R P S rungs people room strength weight told) (e : Lo S S') : RLd R P S' rungs people room strength weight told :=
  ⟨h.1, h.2.1, fun r hr => (h.2.2.1 r hr).trans (e _ (by omega)).symm, fun r hr => (h.2.2.2.1 r hr).trans (e _ (by omega)).symm, fun p hp => (h.2.2.2.2.1 p hp).trans (e _ (by omega)).symm, fun p hp => (h.2.2.2.2.2 p hp).trans (e _ (by omega)).symm⟩
theorem IV.lo (hI : IV R P S) (e : Lo S S') : IV R P S' := by
  obtain ⟨⟨hR9, hP4, h0, h1, hb, hz, hw, ht⟩, ho, hg⟩ := hI
  refine ⟨⟨hR9, hP4, (e 0 (by decide)).trans h0, (e 1 (by decide)).trans h1, fun r hr => ?_, ⟨fun r h1 h2 => (e _ (by omega)).trans (hz.1 r h1 h2), fun r h1 h2 => (e _ (by omega)).trans (hz.2.1 r h1 h2), fun i h1 h2 => (e _ (by omega)).trans (hz.2.2 i h1 h2)⟩, fun p hp => ?_, fun p hp => ?_⟩, fun p hp => ?_, fun p hp => ?_⟩
  · rw [e _ (by omega)]; exact hb r hr
  · rw [e _ (by omega)]; exact hw p hp
  · rw [e _ (by omega)]; exact ht p hp
  · rcases ho p hp with h | ⟨r, hr, h2, h3⟩
    · exact Or.inl ((e _ (by omega)).trans h)
    · exact Or.inr ⟨r, hr, (e _ (by omega)).trans h2, (e _ (by omega)).trans h3⟩
  · obtain ⟨g, t, a, b, c, d, f⟩ := hg p hp
    exact ⟨g, t, a, b, c, (e _ (by omega)).trans d, (e _ (by omega)).trans f⟩
theorem WTs.lo (hP4 : P < 5) (h : WTs P S) (e : Lo S S') : WTs P S' := fun p hp => by
  obtain ⟨w, a, b, c⟩ := h p hp
  exact ⟨w, a, b, (e _ (by omega)).trans c⟩
def brN (b : Nat) : Nat → Int32
  | 0 => 0
  | k + 1 => brN b k ||| if bt b k = 1 then (1 : Int32) <<< (nn k &&& 31) else 0
theorem brN_all : ∀ b, b < 512 → brN b 9 = nn b := by decide +kernel
theorem brN_up {b k : Nat} : ∀ d, (∀ r, k ≤ r → r < k + d → bt b r = 0) → brN b (k + d) = brN b k
  | 0, _ => rfl
  | d + 1, h => by
    show (brN b (k + d) ||| if bt b (k + d) = 1 then (1 : Int32) <<< (nn (k + d) &&& 31) else 0) = _
    rw [brN_up d (fun r h1 h2 => h r h1 (by omega)), h (k + d) (by omega) (by omega), if_neg (by decide), Int32.or_zero]
theorem m_count3 (hI : IV R P S) (hB : RB S broken) : iter (fun (z : Int32 × Int32) => f12_count_B115 S z.1 z.2) FUEL (0, 0) = some broken := by
  obtain ⟨b, hb, hbb, hbt⟩ := hB
  have hR9 := hI.1.1
  have e : brN b R = broken := by
    have h := brN_up (b := b) (k := R) (9 - R) (fun r h1 h2 => by rw [← hbt r (by omega)]; exact hI.1.2.2.2.2.2.1.1 r h1 (by omega))
    rw [show R + (9 - R) = 9 by omega, brN_all b hb] at h
    rw [← h, hbb]
  rw [iter_for (s := ((0 : Int32), (0 : Int32))) (st := fun k => (brN b k, nn k)) (n := R) (out := broken) rfl (by omega) ?hs ?he]
  case hs =>
    intro k hk
    unfold f12_count_B115 f12_count_J143
    dsimp only
    rw [if_neg (show ¬ S 0 ≤ nn k by rw [hI.1.2.2.1]; exact nle (by omega) (by omega) (by omega)), m_r3 (by omega), bnd1_s, hbt k (by omega)]
    simp only [lt_df, nn_succ, brN]
    by_cases h : bt b k = 1
    · rw [if_pos h, if_pos h]
    · rw [if_neg h, if_neg h]
  case he =>
    unfold f12_count_B115
    dsimp only
    rw [if_pos (show S 0 ≤ nn R by rw [hI.1.2.2.1]; exact Int32.le_refl _), e]
theorem m_count2 (hI : IV R P S) : iter (fun (z : Int32 × Int32) => f12_count_B77 S z.1 z.2) FUEL (0, 0) = some (lfF (gR S) P) := by
  have hP4 := hI.1.2.1
  rw [iter_for (s := ((0 : Int32), (0 : Int32))) (st := fun k => (lfF (gR S) k, nn k)) (n := P) (out := lfF (gR S) P) rfl (by omega) ?hs ?he]
  case hs =>
    intro k hk
    unfold f12_count_B77 f12_count_J103
    dsimp only
    rw [if_neg (show ¬ S 1 ≤ nn k by rw [hI.1.2.2.2.1]; exact nle (by omega) (by omega) (by omega)), m_isUp (by omega), bnd1_s]
    simp only [lt_df, nn_succ, lfF]
    by_cases h : S (46 + 4 * k) < 0
    · rw [if_pos h, if_pos rfl, if_pos (show gR S k < 0 from h)]
    · rw [if_neg h, if_neg (by decide), if_neg (show ¬ gR S k < 0 from h)]
  case he =>
    unfold f12_count_B77
    dsimp only
    rw [if_pos (show S 1 ≤ nn P by rw [hI.1.2.2.2.1]; exact Int32.le_refl _)]
theorem m_count7 (hI : IV R P S) : iter (fun (z : Int32 × Int32) => f12_count_B172 S z.1 z.2) FUEL (0, 0) = some (smF (fun p => S (49 + 4 * p)) P) := by
  have hP4 := hI.1.2.1
  rw [iter_for (s := ((0 : Int32), (0 : Int32))) (st := fun k => (smF (fun p => S (49 + 4 * p)) k, nn k)) (n := P) (out := smF (fun p => S (49 + 4 * p)) P) rfl (by omega) ?hs ?he]
  case hs =>
    intro k hk
    unfold f12_count_B172
    dsimp only
    rw [if_neg (show ¬ S 1 ≤ nn k by rw [hI.1.2.2.2.1]; exact nle (by omega) (by omega) (by omega)), m_p3 (by omega), bnd1_s]
    simp only [lt_df, nn_succ, smF]
  case he =>
    unfold f12_count_B172
    dsimp only
    rw [if_pos (show S 1 ≤ nn P by rw [hI.1.2.2.2.1]; exact Int32.le_refl _)]
theorem m_count8 (hI : IV R P S) : iter (fun (z : Int32 × Int32) => f12_count_B201 S z.1 z.2) FUEL (0, 0) = some (smF (fun r => S (12 + 4 * r)) R) := by
  have hR9 := hI.1.1
  rw [iter_for (s := ((0 : Int32), (0 : Int32))) (st := fun k => (smF (fun r => S (12 + 4 * r)) k, nn k)) (n := R) (out := smF (fun r => S (12 + 4 * r)) R) rfl (by omega) ?hs ?he]
  case hs =>
    intro k hk
    unfold f12_count_B201
    dsimp only
    rw [if_neg (show ¬ S 0 ≤ nn k by rw [hI.1.2.2.1]; exact nle (by omega) (by omega) (by omega)), m_r2 (by omega), bnd1_s]
    simp only [lt_df, nn_succ, smF]
  case he =>
    unfold f12_count_B201
    dsimp only
    rw [if_pos (show S 0 ≤ nn R by rw [hI.1.2.2.1]; exact Int32.le_refl _)]
theorem c_whoLeft (hI : IV R P S) (hW : RWd S hour broken rung grip want slips worn) : f10_whoIsLeft rung (nn P) = some (lfF (gR S) P) := by
  have hP4 := hI.1.2.1
  have hneg : ∀ p, p < P → (rung p = -1 ↔ rung p < 0) := by
    intro p hp
    rw [hW.2.2.1 p (by omega)]
    rcases (hI.2.1 p hp).cases with h | ⟨r, hr, h⟩
    · rw [h]; decide
    · rw [h]; have hR9 := hI.1.1; exact ⟨fun h9 => absurd h9 (nn_ne_m1 (by omega)), fun h9 => absurd h9 (nlt0 (by omega))⟩
  rw [c_whoIsLeft hP4 hneg, lfF_congr (g' := gR S) (fun p hp => hW.2.2.1 p (by omega))]
theorem r_count {rc pc fo x nt tl : Int32} (hI : IV R P S) (hW : RWd S hour broken rung grip want slips worn) (hr : rungs = nn R) (hp : people = nn P) (hnt : nt = S 109) (a1 : Int32) : ∃ v, f11_count rc pc fo x nt hour broken rung slips worn rungs people tl a1 = some v ∧ f12_count tl rc S fo x pc a1 = some v := by
  have hR9 := hI.1.1
  have hP4 := hI.1.2.1
  unfold f11_count f12_count
  by_cases h0 : Int32.toInt a1 = 0
  · have : a1 = 0 := Int32.toInt_inj.mp h0
    subst this
    rw [if_pos h0, if_pos h0, hr, ← hI.1.2.2.1]; exact ⟨_, rfl, rfl⟩
  · rw [if_neg h0, if_neg h0]
    by_cases h1 : Int32.toInt a1 = 1
    · have : a1 = 1 := Int32.toInt_inj.mp h1
      subst this
      rw [if_pos h1, if_pos h1, hp, ← hI.1.2.2.2.1]; exact ⟨_, rfl, rfl⟩
    · rw [if_neg h1, if_neg h1]
      by_cases h2 : Int32.toInt a1 = 2
      · rw [if_pos h2, if_pos h2, hp, c_whoLeft hI hW, m_count2 hI]; exact ⟨_, rfl, rfl⟩
      · rw [if_neg h2, if_neg h2]
        by_cases h3 : Int32.toInt a1 = 3
        · rw [if_pos h3, if_pos h3, m_count3 hI hW.2.1]; exact ⟨_, rfl, rfl⟩
        · rw [if_neg h3, if_neg h3]
          by_cases h4 : Int32.toInt a1 = 4
          · rw [if_pos h4, if_pos h4]; exact ⟨_, rfl, rfl⟩
          · rw [if_neg h4, if_neg h4]
            by_cases h5 : Int32.toInt a1 = 5
            · rw [if_pos h5, if_pos h5]; exact ⟨_, rfl, rfl⟩
            · rw [if_neg h5, if_neg h5]
              by_cases h6 : Int32.toInt a1 = 6
              · rw [if_pos h6, if_pos h6, hW.1]; exact ⟨_, rfl, rfl⟩
              · rw [if_neg h6, if_neg h6]
                by_cases h7 : Int32.toInt a1 = 7
                · rw [if_pos h7, if_pos h7, hp, c_allSlips hP4, smF_congr (g' := fun p => S (49 + 4 * p)) (fun p hp => hW.2.2.2.2.2.1 p (by omega)), m_count7 hI]; exact ⟨_, rfl, rfl⟩
                · rw [if_neg h7, if_neg h7]
                  by_cases h8 : Int32.toInt a1 = 8
                  · rw [if_pos h8, if_pos h8, hr, c_allWorn hR9, smF_congr (g' := fun r => S (12 + 4 * r)) (fun r hr => hW.2.2.2.2.2.2 r (by omega)), m_count8 hI]; exact ⟨_, rfl, rfl⟩
                  · rw [if_neg h8, if_neg h8]
                    by_cases h9 : Int32.toInt a1 = 9
                    · rw [if_pos h9, if_pos h9, hnt]; exact ⟨_, rfl, rfl⟩
                    · rw [if_neg h9, if_neg h9]
                      by_cases h10 : Int32.toInt a1 = 10
                      · rw [if_pos h10]; exact ⟨_, rfl, rfl⟩
                      · rw [if_neg h10]
                        by_cases h11 : Int32.toInt a1 = 11
                        · rw [if_pos h11]; exact ⟨_, rfl, rfl⟩
                        · rw [if_neg h11]
                          by_cases h12 : Int32.toInt a1 = 12
                          · rw [if_pos h12]; exact ⟨_, rfl, rfl⟩
                          · rw [if_neg h12]; exact ⟨_, rfl, rfl⟩
theorem nn_rng {x : Int32} {lo hi : Nat} (hlo : lo < 2147483648) (hhi : hi < 2147483648) (h : ¬ x < nn lo) (h2 : ¬ nn hi < x) : ∃ k : Nat, lo ≤ k ∧ k ≤ hi ∧ x = nn k := by
  have h0 : ¬ x < 0 := by
    intro h3
    rw [Int32.lt_iff_toInt_lt, nn_int hlo] at h
    rw [Int32.lt_iff_toInt_lt] at h3
    have : Int32.toInt (0 : Int32) = 0 := by decide
    omega
  obtain ⟨k, hk, rfl⟩ := nn_of' h0
  rw [nn_lt hk hlo] at h
  rw [nn_lt hhi hk] at h2
  exact ⟨k, by omega, by omega, rfl⟩
/-- the notes -/
def RNo (S : Nat → Int32) (notes : Int32) (nh nr nm : Nat → Int32) : Prop := ∃ n, n < 11 ∧ notes = nn n ∧ S 109 = nn n ∧ ∀ i, i < n → nh i = S (79 + 3 * i) ∧ nr i = S (80 + 3 * i) ∧ nm i = S (81 + 3 * i) ∧ ∃ h, h < 61 ∧ nh i = nn h
theorem r_note {notes : Int32} {nh nr nm : Nat → Int32} (hI : IV R P S) (hr : rungs = nn R) (hN : RNo S notes nh nr nm) (a1 a2 a3 : Int32) : ∃ v n1 h1 r1 m1 S', f11_note notes nh nr nm rungs a1 a2 a3 = some (v, n1, h1, r1, m1) ∧ f12_note S a1 a2 a3 = some (v, S') ∧ RNo S' n1 h1 r1 m1 ∧ Lo S S' := by
  obtain ⟨n, hn, rfl, h109, hx⟩ := hN
  have hN2 : RNo S (nn n) nh nr nm := ⟨n, hn, rfl, h109, hx⟩
  have hlo : Lo S S := fun _ _ => rfl
  have hR9 := hI.1.1
  have hno : ∃ v n1 h1 r1 m1 S', some ((-2 : Int32), nn n, nh, nr, nm) = some (v, n1, h1, r1, m1) ∧ some ((-2 : Int32), S) = some (v, S') ∧ RNo S' n1 h1 r1 m1 ∧ Lo S S' := ⟨_, _, _, _, _, _, rfl, rfl, hN2, hlo⟩
  unfold f11_note f12_note
  by_cases hm : a1 = -1
  · rw [if_pos hm, if_pos hm, lt_df]
    exact ⟨_, _, _, _, _, _, rfl, rfl, ⟨0, by decide, rfl, upd_at, fun i hi => absurd hi (Nat.not_lt_zero _)⟩, fun k hk => upd_ne (by omega)⟩
  · have i1 : f12_in (Int32.toInt64 a1) (0 : Int64) (60 : Int64) = _ := m_in (a := a1) (lo := 0) (hi := 60) (by decide) (by decide)
    have i3 : f12_in (Int32.toInt64 a3) (0 : Int64) (4 : Int64) = _ := m_in (a := a3) (lo := 0) (hi := 4) (by decide) (by decide)
    rw [if_neg hm, if_neg hm, i1, bnd1_s]
    by_cases c1 : a1 < 0
    · rw [if_pos c1, if_pos (show a1 < nn 0 from c1), if_pos rfl]; exact hno
    · rw [if_neg c1, if_neg (show ¬ a1 < nn 0 from c1)]
      by_cases c2 : 60 < a1
      · rw [if_pos c2, if_pos (show nn 60 < a1 from c2), if_pos rfl]; exact hno
      · have hh1 : ∃ h, h < 61 ∧ a1 = nn h := by
          obtain ⟨h, -, h2, e⟩ := nn_rng (x := a1) (lo := 0) (hi := 60) (by decide) (by decide) c1 c2
          exact ⟨h, by omega, e⟩
        rw [if_neg c2, if_neg (show ¬ nn 60 < a1 from c2), if_neg (show ¬ (1 : Int32) = 0 by decide), hr]
        rcases p_isRung hI a2 with ⟨r, hr, rfl, e1, e2⟩ | ⟨h0, e1, e2⟩
        · rw [e1, e2, bnd1_s, bnd1_s, if_neg (show ¬ (1 : Int32) = 0 by decide), if_neg (show ¬ (1 : Int32) = 0 by decide), i3, bnd1_s]
          by_cases c3 : a3 < 0
          · rw [if_pos c3, if_pos (show a3 < nn 0 from c3), if_pos rfl]; exact hno
          · rw [if_neg c3, if_neg (show ¬ a3 < nn 0 from c3)]
            by_cases c4 : a3 ≤ 4
            · rw [if_pos c4, if_neg (show ¬ nn 4 < a3 from Int32.not_lt.mpr c4), if_neg (show ¬ (1 : Int32) = 0 by decide)]
              unfold f8_addNote
              rw [h109]
              by_cases hn10 : n = 10
              · subst hn10
                rw [if_neg (by decide), if_pos (show nn 10 = 10 from rfl), bnd5_s]; exact hno
              · rw [if_pos (show nn n < 10 from nltT (b := 10) (by omega) (by omega) (by omega)), if_neg (show ¬ nn n = 10 from nne (b := 10) (by omega) (by omega) hn10), nn_nat (show n < 2147483648 by omega)]
                have j0 : (79 : Int32) + 3 * nn n = nn (79 + 3 * n) := by
                  rw [show (3 : Int32) = nn 3 from rfl, show (79 : Int32) = nn 79 from rfl, nn_mul, nn_add]
                have j1 : nn (79 + 3 * n) + 1 = nn (80 + 3 * n) := by rw [nn_succ]; congr 1; omega
                have j2 : nn (79 + 3 * n) + 2 = nn (81 + 3 * n) := by rw [show (2 : Int32) = nn 2 from rfl, nn_add]; congr 1; omega
                simp only [lt_df, j0, j1, j2]
                rw [nn_nat (show 79 + 3 * n < 2147483648 by omega), nn_nat (show 80 + 3 * n < 2147483648 by omega), nn_nat (show 81 + 3 * n < 2147483648 by omega), if_neg (ng (show n < 2147483648 by omega) (show n < 10 by omega)), if_neg (ng (show n < 2147483648 by omega) (show n < 10 by omega)), if_neg (ng (show n < 2147483648 by omega) (show n < 10 by omega)), if_neg (ng (by omega) (by omega)), if_neg (ng (by omega) (by omega)), if_neg (ng (by omega) (by omega)), upd_ne (f := upd (upd S (79 + 3 * n) a1) (80 + 3 * n) (nn r)) (by omega), upd_ne (f := upd S (79 + 3 * n) a1) (by omega), upd_ne (f := S) (by omega), h109, nn_succ, upd_at, bnd5_s]
                refine ⟨_, _, _, _, _, _, rfl, rfl, ⟨n + 1, by omega, rfl, upd_at, fun i hi => ?_⟩, fun k hk => ?_⟩
                · by_cases e : i = n
                  · subst e
                    rw [upd_at, upd_at, upd_at, upd_ne (by omega), upd_ne (by omega), upd_ne (by omega), upd_at, upd_ne (by omega), upd_ne (by omega), upd_at, upd_ne (by omega), upd_at]
                    exact ⟨rfl, rfl, rfl, hh1⟩
                  · have := hx i (by omega)
                    rw [upd_ne e, upd_ne e, upd_ne e, upd_ne (by omega), upd_ne (by omega), upd_ne (by omega), upd_ne (by omega), upd_ne (by omega), upd_ne (by omega), upd_ne (by omega), upd_ne (by omega), upd_ne (by omega), upd_ne (by omega), upd_ne (by omega), upd_ne (by omega)]
                    exact this
                · rw [upd_ne (by omega), upd_ne (by omega), upd_ne (by omega), upd_ne (by omega)]
            · rw [if_neg c4, if_pos (show nn 4 < a3 from Int32.not_le.mp c4), if_pos rfl]; exact hno
        · rw [e1, e2, bnd1_s, bnd1_s, if_pos rfl, if_pos rfl]; exact hno
end
