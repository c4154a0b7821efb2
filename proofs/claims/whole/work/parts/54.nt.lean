/-! from the begin on, as the text told it -/
/-- a ladder as told, in the class and in the reference's row -/
def RBg (R P : Nat) (S : Nat → Int32) (sbr : Int32) (told srg swt : Nat → Int32) : Prop :=
  (∃ b, b < 512 ∧ sbr = nn b ∧ S 78 = nn b ∧ (∀ r, R ≤ r → r < 9 → bt b r = 0) ∧ ∀ p, p < P → ∃ r, r < R ∧ S (70 + p) = nn r ∧ bt b r = 0) ∧ (∀ p, p < P → told p = S (63 + 2 * p) ∧ srg p = S (70 + p) ∧ swt p = S (74 + p) ∧ ∃ w, w < R ∧ S (74 + p) = nn w) ∧ (∀ p, P ≤ p → p < 4 → told p = 0 ∧ srg p = 0 ∧ swt p = 0)
theorem fill0 {n : Nat} (hn : n < 1000) (z : Nat → Int32) : ∃ z1, fJ7_fill n z 0 = some z1 ∧ ∀ i, i < n → z1 i = 0 := by
  refine ⟨ov n (fun _ => 0) z, ?_, fun i hi => by unfold ov; rw [if_pos hi]⟩
  unfold fJ7_fill
  have h0 : Int32.ofNat n = nn n := rfl
  rw [lt_df, h0, iter_for (s := (z, (0 : Int32))) (st := fun k => (ov k (fun _ => 0) z, nn k)) (n := n) (out := ov n (fun _ => 0) z) (by rw [ov_0]; rfl) (by omega) ?hs ?he]
  · exact bnd1_s _ _
  case hs =>
    intro k hk
    unfold fJ7_fill_B5
    dsimp only
    rw [if_neg (nle (by omega) (by omega) (by omega)), nn_nat (by omega), if_neg (ng (by omega) (by omega)), lt_df, lt_df, nn_succ]
    have := ov_upd (k := k) (f := fun _ => (0 : Int32)) (g := z)
    rw [this]
  case he =>
    unfold fJ7_fill_B5
    dsimp only
    rw [if_pos (Int32.le_refl _)]
theorem m_isOf {b r : Nat} : f12_isOf (nn b) (nn r) = some (if bt b r = 1 then 1 else 0) := by
  unfold f12_isOf bt
  split <;> rfl
def bgA (b : Nat) (S : Nat → Int32) : Nat → Nat → Int32
  | 0 => upd S 2 0
  | k + 1 => upd (upd (bgA b S k) (12 + 4 * k) 0) (13 + 4 * k) (bt b k)
def bgB (T : Nat → Int32) : Nat → Nat → Int32
  | 0 => T
  | k + 1 => upd (upd (upd (upd (bgB T k) (46 + 4 * k) (T (70 + k))) (47 + 4 * k) (T (63 + 2 * k))) (48 + 4 * k) (T (74 + k))) (49 + 4 * k) 0
theorem bgA_ne {b : Nat} {S : Nat → Int32} : ∀ {k i : Nat}, i ≠ 2 → (∀ r, r < k → i ≠ 12 + 4 * r ∧ i ≠ 13 + 4 * r) → bgA b S k i = S i
  | 0, i, h, _ => upd_ne h
  | k + 1, i, h, h2 => by
    unfold bgA
    rw [upd_ne (h2 k (by omega)).2, upd_ne (h2 k (by omega)).1]
    exact bgA_ne h (fun r hr => h2 r (by omega))
theorem bgA_2 {b : Nat} {S : Nat → Int32} : ∀ k, bgA b S k 2 = 0
  | 0 => upd_at
  | k + 1 => by
    unfold bgA
    rw [upd_ne (by omega), upd_ne (by omega)]
    exact bgA_2 k
theorem bgA_r {b : Nat} {S : Nat → Int32} : ∀ {k r : Nat}, r < k → bgA b S k (12 + 4 * r) = 0 ∧ bgA b S k (13 + 4 * r) = bt b r
  | k + 1, r, h => by
    unfold bgA
    by_cases e : r = k
    · subst e
      rw [upd_ne (by omega), upd_at, upd_at]
      exact ⟨rfl, rfl⟩
    · rw [upd_ne (by omega), upd_ne (by omega), upd_ne (by omega), upd_ne (by omega)]
      exact bgA_r (by omega)
theorem bgB_ne {T : Nat → Int32} : ∀ {k i : Nat}, (i < 46 ∨ 46 + 4 * k ≤ i) → bgB T k i = T i
  | 0, i, _ => rfl
  | k + 1, i, h => by
    unfold bgB
    rw [upd_ne (by omega), upd_ne (by omega), upd_ne (by omega), upd_ne (by omega)]
    exact bgB_ne (by omega)
theorem bgB_p {T : Nat → Int32} : ∀ {k p : Nat}, p < k → bgB T k (46 + 4 * p) = T (70 + p) ∧ bgB T k (47 + 4 * p) = T (63 + 2 * p) ∧ bgB T k (48 + 4 * p) = T (74 + p) ∧ bgB T k (49 + 4 * p) = 0
  | k + 1, p, h => by
    unfold bgB
    by_cases e : p = k
    · subst e
      rw [upd_ne (by omega), upd_ne (by omega), upd_ne (by omega), upd_at, upd_ne (by omega), upd_ne (by omega), upd_at, upd_ne (by omega), upd_at, upd_at]
      exact ⟨rfl, rfl, rfl, rfl⟩
    · rw [upd_ne (by omega), upd_ne (by omega), upd_ne (by omega), upd_ne (by omega), upd_ne (by omega), upd_ne (by omega), upd_ne (by omega), upd_ne (by omega), upd_ne (by omega), upd_ne (by omega), upd_ne (by omega), upd_ne (by omega), upd_ne (by omega), upd_ne (by omega), upd_ne (by omega), upd_ne (by omega)]
      exact bgB_p (by omega)
section
variable {S : Nat → Int32} {R P : Nat} {hour broken rungs people : Int32} {rung grip want slips worn room strength weight told srg swt : Nat → Int32} {sbr : Int32}
theorem ix_p3 {p : Nat} (hp : p < 4) : Int32.toNatClampNeg ((46 : Int32) + (4 : Int32) * nn p + (3 : Int32)) = 49 + 4 * p ∧ ¬ ((46 : Int32) + (4 : Int32) * nn p + (3 : Int32) < 0 ∨ 110 ≤ 49 + 4 * p) := by
  have e : (46 : Int32) + (4 : Int32) * nn p + (3 : Int32) = nn (49 + 4 * p) := by
    rw [k46, k4, k3, nn_mul, nn_add, nn_add]; congr 1; omega
  rw [e, nn_nat (by omega)]
  exact ⟨rfl, ng (by omega) (by omega)⟩
theorem ix_t {p b : Nat} (hp : p < 4) (hb : b < 100) : Int32.toNatClampNeg (nn b + nn p) = b + p ∧ ¬ (nn b + nn p < 0 ∨ 110 ≤ b + p) := by
  rw [nn_add, nn_nat (by omega)]
  exact ⟨rfl, ng (by omega) (by omega)⟩
theorem m_begins {b : Nat} (hb : b < 512) (hR : S 0 = nn R) (hP : S 1 = nn P) (hR9 : R < 10) (hP4 : P < 5) (h78 : S 78 = nn b) : f12_begins S = some (bgB (bgA b S R) P) := by
  have g0 : ∀ k, k ≤ R → bgA b S k 0 = nn R := fun k hk => (bgA_ne (by omega) (fun r hr => by omega)).trans hR
  have g78 : ∀ k, k ≤ R → bgA b S k 78 = nn b := fun k hk => (bgA_ne (by omega) (fun r hr => by omega)).trans h78
  have g1 : ∀ k, k ≤ P → bgB (bgA b S R) k 1 = nn P := fun k hk => (bgB_ne (by omega)).trans ((bgA_ne (by omega) (fun r hr => by omega)).trans hP)
  unfold f12_begins
  rw [lt_df, iter_for (s := (upd S 2 0, (0 : Int32))) (st := fun k => (bgA b S k, nn k)) (n := R) (out := bgA b S R) rfl (by omega) ?hs1 ?he1, bnd1_s, iter_for (s := (bgA b S R, (0 : Int32))) (st := fun k => (bgB (bgA b S R) k, nn k)) (n := P) (out := bgB (bgA b S R) P) rfl (by omega) ?hs2 ?he2, bnd1_s]
  case hs1 =>
    intro k hk
    have hk9 : k < 9 := by omega
    unfold f12_begins_B9
    dsimp only
    rw [if_neg (show ¬ bgA b S k 0 ≤ nn k by rw [g0 k (by omega)]; exact nle (by omega) (by omega) (by omega)), (ix_r2 hk9).1, if_neg (ix_r2 hk9).2, lt_df, upd_ne (by omega), g78 k (by omega), m_isOf, bnd1_s]
    unfold f12_begins_J64
    rw [(ix_r3 hk9).1, if_neg (ix_r3 hk9).2]
    have e : bgA b S (k + 1) = upd (upd (bgA b S k) (12 + 4 * k) 0) (13 + 4 * k) (bt b k) := rfl
    rw [e]
    rcases bt01 b hb k hk9 with h | h
    · rw [h, if_pos (by decide), lt_df, lt_df, nn_succ]
    · rw [h, if_neg (by decide), if_neg (ix_r3 hk9).2, lt_df, lt_df, nn_succ]
  case he1 =>
    unfold f12_begins_B9
    dsimp only
    rw [if_pos (show bgA b S R 0 ≤ nn R by rw [g0 R (by omega)]; exact Int32.le_refl _)]
  case hs2 =>
    intro k hk
    have hk4 : k < 4 := by omega
    generalize hT : bgA b S R = T at g1
    have t70 : bgB T k (70 + k) = T (70 + k) := bgB_ne (by omega)
    have t63 : bgB T k (63 + 2 * k) = T (63 + 2 * k) := bgB_ne (by omega)
    have t74 : bgB T k (74 + k) = T (74 + k) := bgB_ne (by omega)
    have i70 := ix_t (b := 70) hk4 (by decide)
    have i74 := ix_t (b := 74) hk4 (by decide)
    unfold f12_begins_B73
    dsimp only
    rw [if_neg (show ¬ bgB T k 1 ≤ nn k by rw [g1 k (by omega)]; exact nle (by omega) (by omega) (by omega)), show (70 : Int32) + nn k = nn 70 + nn k from rfl, i70.1, if_neg i70.2, lt_df, (ix_p0 hk4).1, if_neg (ix_p0 hk4).2, lt_df, m_gripTold hk4, bnd1_s, (ix_p1 hk4).1, if_neg (ix_p1 hk4).2, lt_df, show (74 : Int32) + nn k = nn 74 + nn k from rfl, i74.1, if_neg i74.2, lt_df, (ix_p2 hk4).1, if_neg (ix_p2 hk4).2, lt_df, (ix_p3 hk4).1, if_neg (ix_p3 hk4).2, lt_df, lt_df, nn_succ, t70, upd_ne (f := bgB T k) (by omega), t63, upd_ne (f := upd (bgB T k) (46 + 4 * k) (T (70 + k))) (by omega), upd_ne (f := bgB T k) (by omega), t74]
    rfl
  case he2 =>
    unfold f12_begins_B73
    dsimp only
    rw [if_pos (show bgB (bgA b S R) P 1 ≤ nn P by rw [g1 P (by omega)]; exact Int32.le_refl _)]
/-- both begin -/
theorem r_begins {th tb : Int32} {tr tg tw ts tk : Nat → Int32} (hI : IV0 R P S) (hB : RBg R P S sbr told srg swt) : ∃ tr1 tg1 tw1 ts1 tk1 S0, f10_begin th tb tr tg tw ts tk sbr told srg swt = some (0, sbr, tr1, tg1, tw1, ts1, tk1) ∧ f12_begins S = some S0 ∧ RWd S0 0 sbr tr1 tg1 tw1 ts1 tk1 ∧ IV R P S0 ∧ St S S0 := by
  obtain ⟨hR9, hP4, hR, hP, hf, hz, hw, ht⟩ := hI
  obtain ⟨⟨b, hb, rfl, h78, hbr, hon⟩, htl, hnl⟩ := hB
  obtain ⟨ts1, f1, f2⟩ := fill0 (n := 4) (by omega) ts
  obtain ⟨tk1, f3, f4⟩ := fill0 (n := 9) (by omega) tk
  have hA : ∀ i, 46 ≤ i → bgA b S R i = S i := fun i hi => bgA_ne (by omega) (fun r hr => by omega)
  have hAr : ∀ r, R ≤ r → r < 9 → bgA b S R (12 + 4 * r) = S (12 + 4 * r) ∧ bgA b S R (13 + 4 * r) = S (13 + 4 * r) := fun r h1 h2 => ⟨bgA_ne (by omega) (fun q hq => by omega), bgA_ne (by omega) (fun q hq => by omega)⟩
  have hfl : ∀ r, r < 9 → bgB (bgA b S R) P (13 + 4 * r) = bt b r := by
    intro r hr
    rw [bgB_ne (by omega)]
    by_cases h : r < R
    · exact (bgA_r h).2
    · rw [(hAr r (by omega) hr).2, hz.1 r (by omega) hr, hbr r (by omega) hr]
  have hp4 : ∀ p, p < P → bgB (bgA b S R) P (46 + 4 * p) = S (70 + p) ∧ bgB (bgA b S R) P (47 + 4 * p) = S (63 + 2 * p) ∧ bgB (bgA b S R) P (48 + 4 * p) = S (74 + p) ∧ bgB (bgA b S R) P (49 + 4 * p) = 0 := by
    intro p hp
    obtain ⟨q1, q2, q3, q4⟩ := bgB_p (T := bgA b S R) hp
    exact ⟨q1.trans (hA _ (by omega)), q2.trans (hA _ (by omega)), q3.trans (hA _ (by omega)), q4⟩
  have hpz : ∀ i, 46 + 4 * P ≤ i → i < 62 → bgB (bgA b S R) P i = 0 := fun i h1 h2 => (bgB_ne (by omega)).trans ((hA i (by omega)).trans (hz.2.2 i h1 h2))
  have hge : ∀ i, 62 ≤ i → bgB (bgA b S R) P i = S i := fun i hi => (bgB_ne (by omega)).trans (hA i (by omega))
  refine ⟨va_cpy srg tr 0 0 4, va_cpy told tg 0 0 4, va_cpy swt tw 0 0 4, ts1, tk1, bgB (bgA b S R) P, ?_, m_begins hb hR hP hR9 hP4 h78, ?_, ⟨⟨hR9, hP4, ?_, ?_, ?_, ?_, ?_, ?_⟩, ?_, ?_⟩, ?_⟩
  · unfold f10_begin
    rw [lt_df, lt_df, lt_df, f1, bnd1_s, f3, bnd1_s]
  · refine ⟨((bgB_ne (by omega)).trans (bgA_2 R)).symm, ⟨b, hb, rfl, hfl⟩, fun p hp => ?_, fun p hp => ?_, fun p hp => ?_, fun p hp => ?_, fun r hr => ?_⟩
    · rw [cpy_at hp]
      by_cases h : p < P
      · rw [(hp4 p h).1]; exact (htl p h).2.1
      · rw [hpz _ (by omega) (by omega)]; exact (hnl p (by omega) hp).2.1
    · rw [cpy_at hp]
      by_cases h : p < P
      · rw [(hp4 p h).2.1]; exact (htl p h).1
      · rw [hpz _ (by omega) (by omega)]; exact (hnl p (by omega) hp).1
    · rw [cpy_at hp]
      by_cases h : p < P
      · rw [(hp4 p h).2.2.1]; exact (htl p h).2.2.1
      · rw [hpz _ (by omega) (by omega)]; exact (hnl p (by omega) hp).2.2
    · rw [f2 p hp]
      by_cases h : p < P
      · exact (hp4 p h).2.2.2.symm
      · exact (hpz _ (by omega) (by omega)).symm
    · rw [f4 r hr, bgB_ne (by omega)]
      by_cases h : r < R
      · exact (bgA_r h).1.symm
      · rw [(hAr r (by omega) hr).1, hz.2.1 r (by omega) hr]
  · exact (bgB_ne (by omega)).trans ((bgA_ne (by omega) (fun r hr => by omega)).trans hR)
  · exact (bgB_ne (by omega)).trans ((bgA_ne (by omega) (fun r hr => by omega)).trans hP)
  · intro r hr
    rw [hfl r hr]
    exact bt01 b hb r hr
  · refine ⟨fun r h1 h2 => ?_, fun r h1 h2 => ?_, hpz⟩
    · rw [hfl r h2]; exact hbr r h1 h2
    · rw [bgB_ne (by omega), (hAr r h1 h2).1]; exact hz.2.1 r h1 h2
  · intro p hp
    obtain ⟨w, hw1, hw2⟩ := (htl p hp).2.2.2
    exact ⟨w, hw1, (hp4 p hp).2.2.1.trans hw2⟩
  · intro p hp
    obtain ⟨t, a, b, e⟩ := ht p hp
    exact ⟨t, a, b, (hge _ (by omega)).trans e⟩
  · intro p hp
    obtain ⟨r, hr, e1, e2⟩ := hon p hp
    exact Or.inr ⟨r, hr, (hp4 p hp).1.trans e1, (hfl r (by omega)).trans e2⟩
  · intro p hp
    obtain ⟨t, a, b, e⟩ := ht p hp
    exact ⟨t, t, a, Nat.le_refl _, b, (hp4 p hp).2.1.trans e, (hge _ (by omega)).trans e⟩
  · exact ⟨(bgB_ne (by omega)).trans (bgA_ne (by omega) (fun r hr => by omega)), (bgB_ne (by omega)).trans (bgA_ne (by omega) (fun r hr => by omega)), fun r hr => ⟨(bgB_ne (by omega)).trans (bgA_ne (by omega) (fun q hq => by omega)), (bgB_ne (by omega)).trans (bgA_ne (by omega) (fun q hq => by omega))⟩, hge⟩
/-! notes -/
theorem c_lastNoted {notes : Int32} {nh nr nm : Nat → Int32} (hN : RNo S notes nh nr nm) : ∃ L, L < 61 ∧ f8_lastNotedHour notes nh = some (nn L) ∧ ∀ n i h, notes = nn n → n < 11 → i < n → nh i = nn h → h < 61 → h ≤ L := by
  obtain ⟨n, hn, rfl, -, hx⟩ := hN
  obtain ⟨⟨i9, v9⟩, e, h1, h2⟩ : ∃ a, iter (fun (z : Int32 × Int32) => f8_lastNotedHour_B4 (nn n) nh z.1 z.2) FUEL ((0 : Int32), (0 : Int32)) = some a.1 ∧ ∃ L, L < 61 ∧ a = (nn L, ()) ∧ ∀ i h, i < n → nh i = nn h → h < 61 → h ≤ L := by
    have key := iter_wfF (B := fun (z : Int32 × Int32) => f8_lastNotedHour_B4 (nn n) nh z.1 z.2) (s := ((0 : Int32), (0 : Int32))) (n := n)
      (I := fun m z => ∃ k L, m + k = n ∧ z.2 = nn k ∧ z.1 = nn L ∧ L < 61 ∧ ∀ i h, i < k → nh i = nn h → h < 61 → h ≤ L)
      (Po := fun a => ∃ L, L < 61 ∧ a = nn L ∧ ∀ i h, i < n → nh i = nn h → h < 61 → h ≤ L)
      ⟨0, 0, rfl, rfl, rfl, by decide, fun i h hi => absurd hi (Nat.not_lt_zero _)⟩ (by omega)
      (by
        rintro m ⟨v, i⟩ ⟨k, L, hk, rfl, rfl, hL, hl⟩
        dsimp only
        unfold f8_lastNotedHour_B4
        by_cases hkn : k < n
        · left
          obtain ⟨-, -, -, h0, hh, e0⟩ := hx k hkn
          rw [if_neg (nle (by omega) (by omega) (by omega)), nn_nat (by omega), if_neg (ng (by omega) (by omega)), lt_df, lt_df, nn_succ, e0]
          by_cases hlt : L < h0
          · rw [if_pos (nltT (by omega) (by omega) hlt)]
            refine ⟨_, m - 1, rfl, by omega, k + 1, h0, by omega, rfl, rfl, hh, fun i h hi e hh2 => ?_⟩
            by_cases hik : i = k
            · subst hik
              have := nn_inj (by omega) (by omega) (e0.symm.trans e)
              omega
            · have := hl i h (by omega) e hh2
              omega
          · rw [if_neg (nlt (by omega) (by omega) hlt)]
            refine ⟨_, m - 1, rfl, by omega, k + 1, L, by omega, rfl, rfl, hL, fun i h hi e hh2 => ?_⟩
            by_cases hik : i = k
            · subst hik
              have := nn_inj (by omega) (by omega) (e0.symm.trans e)
              omega
            · exact hl i h (by omega) e hh2
        · right
          obtain rfl : k = n := by omega
          rw [if_pos (Int32.le_refl _)]
          exact ⟨_, rfl, L, hL, rfl, hl⟩)
    obtain ⟨a, e, L, hL, rfl, hl⟩ := key
    exact ⟨(nn L, ()), e, L, hL, rfl, hl⟩
  obtain ⟨h3, h4, h5⟩ := h2
  cases h4
  refine ⟨h1, h3, ?_, fun n2 i h e1 e2 hi e3 hh => ?_⟩
  · unfold f8_lastNotedHour
    rw [e, bnd1_s]
  · have := nn_inj (by omega) (by omega) e1
    subst this
    exact h5 i h hi e3 hh
theorem r_areNotes {notes : Int32} {nh nr nm : Nat → Int32} {h : Nat} (hh : h < 2147483648) (hI : IV0 R P S) (hN : RNo S notes nh nr nm) (hW : RWd S (nn h) broken rung grip want slips worn) : ∃ w, f8_isAsNoted notes nh nr nm (nn h) rung (nn P) = some w ∧ f12_areNotesSo S = some w ∧ (w = 0 ∨ w = 1) ∧ ((∀ n i g, notes = nn n → n < 11 → i < n → nh i = nn g → g < 61 → g < h) → w = 1) := by
  have hR9 := hI.1
  have hP4 := hI.2.1
  have hP := hI.2.2.2.1
  obtain ⟨n, hn, rfl, h109, hx⟩ := hN
  have hh2 : S 2 = nn h := hW.1.symm
  unfold f8_isAsNoted f12_areNotesSo
  have key := iter_twoF (B := fun (z : Int32) => f8_isAsNoted_B2 (nn n) nh (nn h) rung (nn P) nr nm z) (C := fun (z : Int32) => f12_areNotesSo_B2 S z) (s := (0 : Int32)) (t := (0 : Int32)) (n := n)
    (I := fun m a b => ∃ k, m + k = n ∧ a = nn k ∧ b = nn (3 * k))
    (Po := fun a b => a = b ∧ ((a = .inl 0 ∧ ∃ i g, i < n ∧ nh i = nn g ∧ g < 61 ∧ g = h) ∨ a = .inr ()))
    ⟨0, rfl, rfl, rfl⟩ (by omega)
    (by
      rintro m a b ⟨k, hk, rfl, rfl⟩
      unfold f8_isAsNoted_B2 f12_areNotesSo_B2
      have e3 : (3 : Int32) * S 109 = nn (3 * n) := by rw [h109]; exact nn_mul 3 n
      rw [e3]
      by_cases hkn : k < n
      · obtain ⟨x1, x2, x3, g, hg, x4⟩ := hx k hkn
        have j0 : (79 : Int32) + nn (3 * k) = nn (79 + 3 * k) := nn_add 79 (3 * k)
        have j1 : nn (79 + 3 * k) + 1 = nn (80 + 3 * k) := by rw [nn_succ]; congr 1; omega
        have j2 : nn (79 + 3 * k) + 2 = nn (81 + 3 * k) := by rw [show (2 : Int32) = nn 2 from rfl, nn_add]; congr 1; omega
        have j3 : nn (3 * k) + 3 = nn (3 * (k + 1)) := by rw [show (3 : Int32) = nn 3 from rfl, nn_add]; congr 1
        have hc : ¬ (nn k < 0 ∨ 10 ≤ k) := ng (by omega) (by omega)
        have h79 : ¬ (nn (79 + 3 * k) < 0 ∨ 110 ≤ 79 + 3 * k) := ng (by omega) (by omega)
        have h80 : ¬ (nn (80 + 3 * k) < 0 ∨ 110 ≤ 80 + 3 * k) := ng (by omega) (by omega)
        have h81 : ¬ (nn (81 + 3 * k) < 0 ∨ 110 ≤ 81 + 3 * k) := ng (by omega) (by omega)
        rw [if_neg (nle (by omega) (by omega) (by omega)), if_neg (nle (by omega) (by omega) (by omega)), j0, j1, j2, nn_nat (show k < 2147483648 by omega), nn_nat (show 79 + 3 * k < 2147483648 by omega), nn_nat (show 80 + 3 * k < 2147483648 by omega), nn_nat (show 81 + 3 * k < 2147483648 by omega), if_neg hc, if_neg h79, hh2, ← x1, ← x2, ← x3]
        by_cases e : nh k = nn h
        · rw [if_pos e, if_pos e, if_neg hc, if_neg h80, lt_df (nr k), c_crowdOn hP4, bnd1_s, m_standing hP hP4, bnd1_s, crF_congr (g' := gR S) (fun p hp => hW.2.2.1 p (by omega)), if_neg hc, if_neg h81, lt_df (nm k)]
          by_cases e2 : nn (crF (gR S) (nr k) P) = nm k
          · left
            rw [if_pos e2, if_pos e2, lt_df, lt_df, nn_succ, j3]
            exact ⟨_, _, m - 1, rfl, rfl, by omega, k + 1, by omega, rfl, rfl⟩
          · right
            rw [if_neg e2, if_neg e2]
            exact ⟨_, _, rfl, rfl, rfl, Or.inl ⟨rfl, k, g, hkn, x4, hg, nn_inj (by omega) hh (x4.symm.trans e)⟩⟩
        · left
          rw [if_neg e, if_neg e, lt_df, lt_df, nn_succ, j3]
          exact ⟨_, _, m - 1, rfl, rfl, by omega, k + 1, by omega, rfl, rfl⟩
      · right
        obtain rfl : k = n := by omega
        rw [if_pos (Int32.le_refl _), if_pos (Int32.le_refl _)]
        exact ⟨_, _, rfl, rfl, rfl, Or.inr rfl⟩)
  obtain ⟨a, b, e1, e2, rfl, hc⟩ := key
  rw [e1, e2]
  rcases hc with ⟨rfl, i, g, q1, q2, q3, q4⟩ | rfl
  · rw [bndS0_l]
    refine ⟨0, rfl, rfl, Or.inl rfl, fun hall => ?_⟩
    have := hall n i g rfl hn q1 q2 q3
    omega
  · rw [bndS0_r]
    exact ⟨1, rfl, rfl, Or.inr rfl, fun _ => rfl⟩
/-! how many stand where, kept in a row -/
def stF (g : Nat → Int32) (P c k : Nat) (f : Nat → Int32) : Nat → Int32 := fun j => if 9 * c ≤ j ∧ j < 9 * c + k then nn (crF g (nn (j - 9 * c)) P) else f j
theorem stF_0 {g : Nat → Int32} {P c : Nat} {f : Nat → Int32} : stF g P c 0 f = f := by
  funext j; unfold stF; rw [if_neg (by omega)]
theorem stF_s {g : Nat → Int32} {P c k : Nat} {f : Nat → Int32} : upd (stF g P c k f) (9 * c + k) (nn (crF g (nn k) P)) = stF g P c (k + 1) f := by
  funext j
  unfold upd
  by_cases h1 : j = 9 * c + k
  · subst h1
    rw [if_pos rfl]
    unfold stF
    rw [if_pos (by omega), Nat.add_sub_cancel_left]
  · rw [if_neg h1]
    unfold stF
    by_cases h2 : 9 * c ≤ j ∧ j < 9 * c + k
    · rw [if_pos h2, if_pos (by omega)]
    · rw [if_neg h2, if_neg (by omega)]
theorem stF_congr {g g' : Nat → Int32} {P c k : Nat} {f : Nat → Int32} (h : ∀ p, p < P → g p = g' p) : stF g P c k f = stF g' P c k f := by
  funext j
  unfold stF
  rw [crF_congr h]
theorem ix_9 {c i : Nat} (hc : c < 7) (hi : i < 9) : Int32.toNatClampNeg (nn (9 * c) + nn i) = 9 * c + i ∧ ¬ (nn (9 * c) + nn i < 0 ∨ 63 ≤ 9 * c + i) ∧ ¬ (63 : Int32) ≤ nn (9 * c) + nn i := by
  rw [nn_add, nn_nat (by omega)]
  exact ⟨rfl, ng (by omega) (by omega), nle (a := 63) (by omega) (by omega) (by omega)⟩
theorem c_keepCrowds {g cr : Nat → Int32} {c : Nat} (hc : c < 7) (hR9 : R < 10) (hP4 : P < 5) : f3_keepCrowds (nn c) cr g (nn R) (nn P) = some (stF g P c R cr) := by
  have e9 : nn c * 9 = nn (9 * c) := by rw [show (9 : Int32) = nn 9 from rfl, nn_mul, Nat.mul_comm]
  unfold f3_keepCrowds
  rw [lt_df, e9, iter_for (s := (cr, (0 : Int32))) (st := fun k => (stF g P c k cr, nn k)) (n := R) (out := stF g P c R cr) (by rw [stF_0]; rfl) (by omega) ?hs ?he]
  · exact bnd1_s _ _
  case hs =>
    intro k hk
    obtain ⟨q1, q2, q3⟩ := ix_9 (c := c) (i := k) hc (by omega)
    unfold f3_keepCrowds_B10
    dsimp only
    rw [if_neg (nle (by omega) (by omega) (by omega)), if_neg q3, c_crowdOn hP4, bnd1_s, q1, if_neg q2, lt_df, lt_df, nn_succ, stF_s]
  case he =>
    unfold f3_keepCrowds_B10
    dsimp only
    rw [if_pos (Int32.le_refl _)]
theorem m_fit63 {sn : Nat → Int32} {q : Int32} {c k n : Nat} (hc : c < 7) (hq : q + 1 = nn c) (hk : k < 100) (hn : n < 100) (hI : IV0 R P S) : iter (fun (z : (Nat → Int32) × Int32) => f12_fillsFits_B63 S (nn k) (nn n) q z.1 z.2) FUEL (sn, (0 : Int32)) = some (if k = n then stF (gR S) P c R sn else sn) := by
  obtain ⟨hR9, hP4, hR, hP, -⟩ := hI
  have e9 : (9 : Int32) * (q + 1) = nn (9 * c) := by rw [hq]; exact nn_mul 9 c
  by_cases h : k = n
  · subst h
    rw [if_pos rfl, iter_for (s := (sn, (0 : Int32))) (st := fun i => (stF (gR S) P c i sn, nn i)) (n := R) (out := stF (gR S) P c R sn) (by rw [stF_0]; rfl) (by omega) ?hs ?he]
    case hs =>
      intro i hi
      obtain ⟨q1, q2, q3⟩ := ix_9 (c := c) (i := i) hc (by omega)
      unfold f12_fillsFits_B63
      dsimp only
      rw [hR, if_neg (nle (by omega) (by omega) (by omega)), if_pos rfl, m_standing hP hP4, bnd1_s, e9, q1, if_neg q2, lt_df, lt_df, nn_succ, stF_s]
    case he =>
      unfold f12_fillsFits_B63
      dsimp only
      rw [hR, if_pos (Int32.le_refl _)]
  · rw [if_neg h]
    have e : f12_fillsFits_B63 S (nn k) (nn n) q sn 0 = some (.inr sn) := by
      unfold f12_fillsFits_B63
      rw [if_neg (nne (by omega) (by omega) h)]
      split <;> rfl
    have hf : FUEL = 999999 + 1 := by decide
    rw [hf, iter]
    dsimp only
    rw [e]
end
