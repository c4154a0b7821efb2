/-! hold: the reference numbers whole plans -/
theorem nn0 {a : Nat} (ha : a < 2147483648) (h : 0 < a) : ¬ nn a = 0 := nne (b := 0) ha (by decide) (by omega)
def dig (B code : Nat) : Nat → List Nat
  | 0 => []
  | n + 1 => code / B ^ n % B :: dig B code n
theorem dig_len (B code : Nat) : ∀ n, (dig B code n).length = n
  | 0 => rfl
  | n + 1 => by unfold dig; rw [List.length_cons, dig_len]
theorem dig_lt {B code : Nat} (hB : 0 < B) : ∀ {n c : Nat}, c ∈ dig B code n → c < B
  | n + 1, c, h => by
    unfold dig at h
    rcases List.mem_cons.mp h with rfl | h
    · exact Nat.mod_lt _ hB
    · exact dig_lt hB h
theorem dig_add {B c x : Nat} (hB : 0 < B) {n : Nat} : ∀ {k : Nat}, k ≤ n → dig B (c * B ^ n + x) k = dig B x k
  | 0, _ => rfl
  | k + 1, h => by
    unfold dig
    rw [dig_add hB (k := k) (by omega)]
    congr 1
    obtain ⟨j, rfl⟩ : ∃ j, n = k + 1 + j := ⟨n - (k + 1), by omega⟩
    have e : c * B ^ (k + 1 + j) + x = B ^ k * (B * (c * B ^ j)) + x := by
      rw [Nat.pow_add, Nat.pow_succ]
      congr 1
      rw [Nat.mul_comm (B ^ k) B, Nat.mul_assoc, Nat.mul_left_comm, Nat.mul_left_comm c, Nat.mul_left_comm B (B ^ k)]
    rw [e, Nat.mul_add_div (Nat.pow_pos hB), Nat.mul_add_mod]
theorem dig_sur {B : Nat} (hB : 0 < B) : ∀ (ds : List Nat), (∀ c, c ∈ ds → c < B) → ∃ code, code < B ^ ds.length ∧ dig B code ds.length = ds
  | [], _ => ⟨0, by simp, rfl⟩
  | c :: ds, h => by
    obtain ⟨x, h1, h2⟩ := dig_sur hB ds (fun d hd => h d (List.mem_cons_of_mem _ hd))
    have hc := h c List.mem_cons_self
    refine ⟨c * B ^ ds.length + x, ?_, ?_⟩
    · rw [List.length_cons, Nat.pow_succ]
      have : (c + 1) * B ^ ds.length ≤ B * B ^ ds.length := Nat.mul_le_mul_right _ hc
      rw [Nat.succ_mul] at this
      rw [Nat.mul_comm (B ^ ds.length) B]
      omega
    · rw [List.length_cons]
      unfold dig
      rw [dig_add hB (Nat.le_refl _), h2]
      congr 1
      rw [Nat.mul_comm c, Nat.mul_add_div (Nat.pow_pos hB), Nat.div_eq_of_lt h1, Nat.add_zero]
      exact Nat.mod_eq_of_lt hc
theorem m_power {b n : Nat} (hn : n < 100) : f12_power (nn b) (nn n) = some (nn (b ^ n)) := by
  unfold f12_power
  rw [iter_for (s := ((1 : Int32), (0 : Int32))) (st := fun k => (nn (b ^ k), nn k)) (n := n) (out := nn (b ^ n)) (by simp only [Nat.pow_zero]; rfl) (by omega) ?hs ?he]
  · exact bnd1_s _ _
  case hs =>
    intro k hk
    unfold f12_power_B4
    dsimp only
    rw [if_neg (nle (by omega) (by omega) (by omega)), lt_df, lt_df, nn_mul, nn_succ, Nat.pow_succ]
  case he =>
    unfold f12_power_B4
    dsimp only
    rw [if_pos (Int32.le_refl _)]
theorem pow_small {P n : Nat} (hP : P < 5) (hn : n < 5) : (2 * P + 1) ^ n < 10000 := by
  have h1 : (2 * P + 1) ^ n ≤ 9 ^ n := Nat.pow_le_pow_left (by omega) n
  have h2 : 9 ^ n ≤ 9 ^ 4 := Nat.pow_le_pow_right (by omega) (by omega)
  have h3 : 9 ^ 4 = 6561 := by decide
  omega
def Ag (S S' : Nat → Int32) : Prop := ∀ i, 62 ≤ i → S' i = S i
section
variable {S : Nat → Int32} {R P : Nat} {hour broken rungs people : Int32} {rung grip want slips worn room strength weight told : Nat → Int32}
theorem m_hgt94 {h k : Nat} (hI : IV0 R P S) (hh : h ≤ R) : f12_heightBy_J94 S (hgt h) (nn k) = some (.inl (S, hgt (clN S P R h), nn (k + 1))) := by
  obtain ⟨hR9, hP4, hR, hP, _⟩ := hI
  unfold f12_heightBy_J94 clN
  rw [hgt_add, hR]
  by_cases h1 : h < R
  · rw [if_neg (nle (by omega) (by omega) (by omega)), m_standing hP hP4, bnd1_s, m_r0 (by omega), bnd1_s, sRoom_nn (by omega)]
    by_cases h2 : nn (crF (gR S) (nn h) P) < S (10 + 4 * h)
    · rw [if_neg (Int32.not_le.mpr h2), if_pos ⟨h1, by rw [decide_eq_true_eq]; exact h2⟩, lt_df, lt_df, nn_succ, hgt_succ]
    · rw [if_pos (Int32.not_lt.mp h2), if_neg (fun h3 => h2 (by have := h3.2; rw [decide_eq_true_eq] at this; exact this)), lt_df, nn_succ]
  · rw [if_pos (nleT (by omega) (by omega) (by omega)), if_neg (fun h3 => h1 h3.1), lt_df, nn_succ]
theorem m_hgt65 {h k s : Nat} {t : Int32} (hI : IV0 R P S) (hh : h ≤ R) (hs2 : s < 2 * P) (ht : t = sWy s) : (stC S P (s + 1) = none ∧ f12_heightBy_J65 S (hgt h) (nn k) (nn s) (nn (s / 2)) t = some (.inr (.inl (-2, S)))) ∨ (∃ S', stC S P (s + 1) = some S' ∧ IV0 R P S' ∧ Ag S S' ∧ f12_heightBy_J65 S (hgt h) (nn k) (nn s) (nn (s / 2)) t = some (.inl (S', hgt (clN S' P R h), nn (k + 1)))) := by
  subst ht
  have hR9 := hI.1
  have hP4 := hI.2.1
  have hs : s < 8 := by omega
  have h2 : s / 2 < 4 := by omega
  unfold f12_heightBy_J65
  rw [m_stepTo hI.2.2.1 hI.1 hI.2.2.2.1 hI.2.1 h2, bnd1_s, (hv8 s hs).1, (ix_p0 h2).1]
  rcases sStep_cases hI.2.2.1 hI.1 P (s / 2) (sWy s) with e | ⟨r, hr, e, -⟩
  · left
    rw [e, if_neg (show ¬ (0 : Int32) ≤ -1 by decide)]
    refine ⟨?_, rfl⟩
    exact stC_n e
  · right
    have hI' : IV0 R P (upd S (46 + 4 * (s / 2)) (nn r)) := hI.up_rg (by omega)
    rw [e, if_pos (n0le (by omega)), if_neg (ix_p0 h2).2, lt_df, m_hgt94 hI' hh]
    refine ⟨_, ?_, hI', fun i hi => upd_ne (by omega), rfl⟩
    rw [stC_s (by rw [e]; exact nn_ne_m1 (by omega)), e]
theorem m_hgt17 {code n : Nat} (hc : code < 10000) (hn : n < 5) : ∀ (d k : Nat) (S : Nat → Int32) (h fuel : Nat), k + d = n → d < fuel → IV0 R P S → h ≤ R →
    (∃ v S', plan P R S h (dig (2 * P + 1) code d) = some v ∧ iter (fun (z : (Nat → Int32) × Int32 × Int32) => f12_heightBy_B17 (nn n) (nn (2 * P + 1)) (nn code) z.1 z.2.1 z.2.2) fuel (S, hgt h, nn k) = some (.inr (S', hgt v)) ∧ Ag S S') ∨
    (∃ S', plan P R S h (dig (2 * P + 1) code d) = none ∧ iter (fun (z : (Nat → Int32) × Int32 × Int32) => f12_heightBy_B17 (nn n) (nn (2 * P + 1)) (nn code) z.1 z.2.1 z.2.2) fuel (S, hgt h, nn k) = some (.inl (-2, S')) ∧ Ag S S') := by
  intro d
  induction d with
  | zero =>
    intro k S h fuel hk hf hI hh
    obtain ⟨f, rfl⟩ : ∃ f, fuel = f + 1 := ⟨fuel - 1, by omega⟩
    left
    refine ⟨h, S, rfl, ?_, fun _ _ => rfl⟩
    have e : f12_heightBy_B17 (nn n) (nn (2 * P + 1)) (nn code) S (hgt h) (nn k) = some (.inr (.inr (S, hgt h))) := by
      unfold f12_heightBy_B17
      rw [if_pos (nleT (by omega) (by omega) (by omega))]
    unfold iter
    dsimp only
    rw [e]
  | succ d ih =>
    intro k S h fuel hk hf hI hh
    obtain ⟨f, rfl⟩ : ∃ f, fuel = f + 1 := ⟨fuel - 1, by omega⟩
    have hP4 := hI.2.1
    have hR9 := hI.1
    have hpw := pow_small (P := P) (n := d) hP4 (by omega)
    have hpp : 0 < (2 * P + 1) ^ d := Nat.pow_pos (by omega)
    have e1 : nn code / nn ((2 * P + 1) ^ d) = nn (code / (2 * P + 1) ^ d) := pk_div (by omega) hpp (by omega)
    have hq : code / (2 * P + 1) ^ d < 10000 := Nat.lt_of_le_of_lt (Nat.div_le_self _ _) hc
    have e2 : nn (code / (2 * P + 1) ^ d) - nn (code / (2 * P + 1) ^ d) / nn (2 * P + 1) * nn (2 * P + 1) = nn (code / (2 * P + 1) ^ d % (2 * P + 1)) := pk_rem (by omega) (by omega) (by omega)
    have e3 : (nn n - 1) - nn k = nn d := by
      have h1 : nn n - 1 = nn (n - 1) := nn_sub (a := n) (b := 1) (by omega)
      rw [h1, nn_sub (by omega)]
      congr 1
      omega
    have hcl : code / (2 * P + 1) ^ d % (2 * P + 1) < 2 * P + 1 := Nat.mod_lt _ (by omega)
    show (∃ v S', plan P R S h (code / (2 * P + 1) ^ d % (2 * P + 1) :: dig (2 * P + 1) code d) = some v ∧ _) ∨ (∃ S', plan P R S h (code / (2 * P + 1) ^ d % (2 * P + 1) :: dig (2 * P + 1) code d) = none ∧ _)
    have hB : (∃ S', stC S P (code / (2 * P + 1) ^ d % (2 * P + 1)) = some S' ∧ IV0 R P S' ∧ Ag S S' ∧ f12_heightBy_B17 (nn n) (nn (2 * P + 1)) (nn code) S (hgt h) (nn k) = some (.inl (S', hgt (clN S' P R h), nn (k + 1)))) ∨ (stC S P (code / (2 * P + 1) ^ d % (2 * P + 1)) = none ∧ f12_heightBy_B17 (nn n) (nn (2 * P + 1)) (nn code) S (hgt h) (nn k) = some (.inr (.inl (-2, S)))) := by
      unfold f12_heightBy_B17
      rw [if_neg (nle (by omega) (by omega) (by omega)), e3, m_power (by omega), bnd1_s, if_neg (nn0 (a := (2 * P + 1) ^ d) (by omega) hpp), if_neg (nn0 (a := 2 * P + 1) (by omega) (by omega)), e1, e2]
      generalize code / (2 * P + 1) ^ d % (2 * P + 1) = c at hcl
      cases c with
      | zero =>
        left
        refine ⟨S, rfl, hI, fun _ _ => rfl, ?_⟩
        rw [lt_df, if_pos (show nn 0 - 1 < 0 by decide), m_hgt94 hI hh]
      | succ s =>
        have hs : s < 8 := by omega
        rw [nn_pred' s, lt_df, if_neg (nlt0 (by omega))]
        have e5 : nn s - nn s / 2 * 2 = 0 ↔ s % 2 = 0 := (hv8 s hs).2
        by_cases h2 : s % 2 = 0
        · rw [if_pos (e5.mpr h2), (hv8 s hs).1]
          rcases m_hgt65 (s := s) (h := h) (k := k) (t := 1) hI hh (by omega) (by unfold sWy; rw [if_pos h2]) with ⟨j1, j2⟩ | ⟨S', j1, j2, j3, j4⟩
          · exact Or.inr ⟨j1, j2⟩
          · exact Or.inl ⟨S', j1, j2, j3, j4⟩
        · rw [if_neg (fun h9 => h2 (e5.mp h9)), (hv8 s hs).1]
          rcases m_hgt65 (s := s) (h := h) (k := k) (t := -1) hI hh (by omega) (by unfold sWy; rw [if_neg h2]) with ⟨j1, j2⟩ | ⟨S', j1, j2, j3, j4⟩
          · exact Or.inr ⟨j1, j2⟩
          · exact Or.inl ⟨S', j1, j2, j3, j4⟩
    rcases hB with ⟨S', b1, b2, b3, b4⟩ | ⟨b1, b2⟩
    · have hi : iter (fun (z : (Nat → Int32) × Int32 × Int32) => f12_heightBy_B17 (nn n) (nn (2 * P + 1)) (nn code) z.1 z.2.1 z.2.2) (f + 1) (S, hgt h, nn k) = iter (fun (z : (Nat → Int32) × Int32 × Int32) => f12_heightBy_B17 (nn n) (nn (2 * P + 1)) (nn code) z.1 z.2.1 z.2.2) f (S', hgt (clN S' P R h), nn (k + 1)) := by
        rw [iter]
        dsimp only
        rw [b4]
      rw [hi, plan_cons_s b1]
      rcases ih (k + 1) S' (clN S' P R h) f (by omega) (by omega) b2 (clN_le S' hh) with ⟨v, S2, j1, j2, j3⟩ | ⟨S2, j1, j2, j3⟩
      · exact Or.inl ⟨v, S2, j1, j2, fun i hi => (j3 i hi).trans (b3 i hi)⟩
      · exact Or.inr ⟨S2, j1, j2, fun i hi => (j3 i hi).trans (b3 i hi)⟩
    · right
      refine ⟨S, plan_cons_n b1, ?_, fun _ _ => rfl⟩
      rw [iter]
      dsimp only
      rw [b2]
theorem m_heightBy {code n : Nat} (hc : code < 10000) (hn : n < 5) (hI : IV0 R P S) :
    (∃ v S', plan P R S 0 (dig (2 * P + 1) code n) = some v ∧ f12_heightBy S (nn code) (nn n) = some (hgt v, S') ∧ Ag S S') ∨ (∃ S', plan P R S 0 (dig (2 * P + 1) code n) = none ∧ f12_heightBy S (nn code) (nn n) = some (-2, S') ∧ Ag S S') := by
  have e2 : (2 : Int32) * S 1 + 1 = nn (2 * P + 1) := by rw [hI.2.2.2.1, show (2 : Int32) * nn P = nn (2 * P) from nn_mul 2 P, nn_succ]
  unfold f12_heightBy
  rw [e2, lt_df]
  have hm : ((-1 : Int32)) = hgt 0 := hgt_0.symm
  rw [hm]
  rcases m_hgt17 (R := R) (P := P) hc hn n 0 S 0 FUEL (by omega) (by unfold FUEL; omega) hI (by omega) with ⟨v, S', j1, j2, j3⟩ | ⟨S', j1, j2, j3⟩
  · have j2' : iter (fun (z : (Nat → Int32) × Int32 × Int32) => f12_heightBy_B17 (nn n) (nn (2 * P + 1)) (nn code) z.1 z.2.1 z.2.2) FUEL (S, hgt 0, (0 : Int32)) = some (.inr (S', hgt v)) := j2
    rw [j2', bndS2_r]
    exact Or.inl ⟨v, S', j1, rfl, j3⟩
  · have j2' : iter (fun (z : (Nat → Int32) × Int32 × Int32) => f12_heightBy_B17 (nn n) (nn (2 * P + 1)) (nn code) z.1 z.2.1 z.2.2) FUEL (S, hgt 0, (0 : Int32)) = some (.inl (-2, S')) := j2
    rw [j2', bndS2_l]
    exact Or.inr ⟨S', j1, rfl, j3⟩
theorem plan_0 : ∀ (n : Nat) (B : Nat) (S : Nat → Int32) (h : Nat), ∃ v, plan P R S h (dig B 0 n) = some v
  | 0, B, S, h => ⟨h, rfl⟩
  | n + 1, B, S, h => by
    have e : dig B 0 (n + 1) = 0 :: dig B 0 n := by
      show 0 / B ^ n % B :: dig B 0 n = _
      rw [Nat.zero_div, Nat.zero_mod]
    rw [e, plan_cons_s (S' := S) rfl]
    exact plan_0 n B S _
/-- the first of the plans by which it comes lowest -/
theorem m_hold57 {kept : Nat → Int32} {n : Nat} (hn : n < 5) (hI : IV0 R P S) : ∃ b v, iter (fun (z : (Nat → Int32) × Int32 × Int32 × Int32) => f12_hold_B57 (nn (2 * P + 1)) (nn n) (ov 62 S kept) z.1 z.2.1 z.2.2.1 z.2.2.2) FUEL (S, (-2 : Int32), (0 : Int32), (0 : Int32)) = some (S, nn b, hgt v) ∧ b < (2 * P + 1) ^ n ∧ plan P R S 0 (dig (2 * P + 1) b n) = some v ∧ ∀ c u, c < (2 * P + 1) ^ n → plan P R S 0 (dig (2 * P + 1) c n) = some u → v ≤ u ∧ (c < b → v < u) := by
  have hR9 := hI.1
  have hP4 := hI.2.1
  have hpw := pow_small hP4 hn
  have hpp : 0 < (2 * P + 1) ^ n := Nat.pow_pos (by omega)
  have key := iter_wfF (B := fun (z : (Nat → Int32) × Int32 × Int32 × Int32) => f12_hold_B57 (nn (2 * P + 1)) (nn n) (ov 62 S kept) z.1 z.2.1 z.2.2.1 z.2.2.2) (s := (S, (-2 : Int32), (0 : Int32), (0 : Int32))) (n := (2 * P + 1) ^ n)
    (I := fun m z => ∃ k, m + k = (2 * P + 1) ^ n ∧ z.1 = S ∧ z.2.2.2 = nn k ∧ ((k = 0 ∧ z.2.1 = -2 ∧ z.2.2.1 = 0) ∨ ∃ b v, z.2.1 = nn b ∧ z.2.2.1 = hgt v ∧ b < k ∧ plan P R S 0 (dig (2 * P + 1) b n) = some v ∧ ∀ c u, c < k → plan P R S 0 (dig (2 * P + 1) c n) = some u → v ≤ u ∧ (c < b → v < u)))
    (Po := fun z => ∃ b v, z = (S, nn b, hgt v) ∧ b < (2 * P + 1) ^ n ∧ plan P R S 0 (dig (2 * P + 1) b n) = some v ∧ ∀ c u, c < (2 * P + 1) ^ n → plan P R S 0 (dig (2 * P + 1) c n) = some u → v ≤ u ∧ (c < b → v < u))
    ⟨0, rfl, rfl, rfl, Or.inl ⟨rfl, rfl, rfl⟩⟩ (by omega)
    (by
      rintro m ⟨S1, be, le, i⟩ ⟨k, hk, rfl, rfl, hz⟩
      dsimp only at hz ⊢
      unfold f12_hold_B57
      rw [m_power (by omega), bnd1_s]
      by_cases hkN : k < (2 * P + 1) ^ n
      · left
        rw [if_neg (nle (by omega) (by omega) (by omega))]
        rcases m_heightBy (R := R) (code := k) (n := n) (by omega) hn hI with ⟨v2, S2, j1, j2, j3⟩ | ⟨S2, j1, j2, j3⟩
        · have hv2 := plan_le _ _ _ _ (Nat.zero_le R) j1
          rw [j2, bnd2_s, m_laysBack, bnd1_s, ov_back (fun i hi => j3 i hi), if_neg (hgt_n2 v2 (by omega))]
          rcases hz with ⟨rfl, rfl, rfl⟩ | ⟨b, v, rfl, rfl, hb, hp, hc⟩
          · rw [if_pos (show (-2 : Int32) < 0 by decide)]
            unfold f12_hold_J102
            rw [lt_df, nn_succ]
            refine ⟨_, m - 1, rfl, by omega, 1, by omega, rfl, rfl, Or.inr ⟨0, v2, rfl, rfl, by omega, j1, fun c u hc hu => ?_⟩⟩
            obtain rfl : c = 0 := by omega
            rw [j1] at hu
            obtain rfl : v2 = u := Option.some.inj hu
            exact ⟨Nat.le_refl _, fun h9 => absurd h9 (Nat.lt_irrefl _)⟩
          · have hv := plan_le _ _ _ _ (Nat.zero_le R) hp
            rw [if_neg (nlt0 (by omega))]
            by_cases hlt : v2 < v
            · rw [if_pos ((hgt_lt v2 (by omega) v (by omega)).mpr hlt)]
              unfold f12_hold_J102
              rw [lt_df, nn_succ]
              refine ⟨_, m - 1, rfl, by omega, k + 1, by omega, rfl, rfl, Or.inr ⟨k, v2, rfl, rfl, by omega, j1, fun c u hck hu => ?_⟩⟩
              by_cases e : c < k
              · have := hc c u e hu
                exact ⟨by omega, fun _ => by omega⟩
              · obtain rfl : c = k := by omega
                rw [j1] at hu
                obtain rfl : v2 = u := Option.some.inj hu
                exact ⟨Nat.le_refl _, fun h9 => absurd h9 (Nat.lt_irrefl _)⟩
            · rw [if_neg (fun h9 => hlt ((hgt_lt v2 (by omega) v (by omega)).mp h9)), lt_df, nn_succ]
              refine ⟨_, m - 1, rfl, by omega, k + 1, by omega, rfl, rfl, Or.inr ⟨b, v, rfl, rfl, by omega, hp, fun c u hck hu => ?_⟩⟩
              by_cases e : c < k
              · exact hc c u e hu
              · obtain rfl : c = k := by omega
                rw [j1] at hu
                obtain rfl : v2 = u := Option.some.inj hu
                exact ⟨by omega, fun h9 => by omega⟩
        · rw [j2, bnd2_s, m_laysBack, bnd1_s, ov_back (fun i hi => j3 i hi), if_pos rfl, lt_df, nn_succ]
          rcases hz with ⟨rfl, rfl, rfl⟩ | ⟨b, v, rfl, rfl, hb, hp, hc⟩
          · obtain ⟨v, hv⟩ := plan_0 (P := P) (R := R) n (2 * P + 1) S1 0
            rw [hv] at j1
            cases j1
          · refine ⟨_, m - 1, rfl, by omega, k + 1, by omega, rfl, rfl, Or.inr ⟨b, v, rfl, rfl, by omega, hp, fun c u hck hu => ?_⟩⟩
            by_cases e : c < k
            · exact hc c u e hu
            · obtain rfl : c = k := by omega
              rw [j1] at hu
              cases hu
      · right
        obtain rfl : k = (2 * P + 1) ^ n := by omega
        rw [if_pos (Int32.le_refl _)]
        rcases hz with ⟨h0, _⟩ | ⟨b, v, rfl, rfl, hb, hp, hc⟩
        · omega
        · exact ⟨_, rfl, b, v, rfl, hb, hp, hc⟩)
  obtain ⟨z, e, b, v, rfl, h1, h2, h3⟩ := key
  exact ⟨b, v, e, h1, h2, h3⟩
theorem r_hold {fs th tb : Int32} {tr tg tw ts tk kept : Nat → Int32} {qt qn : Nat} (hI : IV R P S) (hW : RWd S hour broken rung grip want slips worn) (hL : RLd R P S rungs people room strength weight told) (a1 a2 : Int32) : ∃ v fs1 th1 tb1 tr1 tg1 tw1 ts1 tk1 qt1 kp1, f11_hold hour broken rung grip want slips worn rungs people room fs th tb tr tg tw ts tk qt qn a1 a2 = some (v, fs1, th1, tb1, tr1, tg1, tw1, ts1, tk1, qt1) ∧ f12_hold S kept a1 a2 = some (v, S, kp1) := by
  have hR9 := hI.1.1
  have hP4 := hI.1.2.1
  have hno : ∃ v fs1 th1 tb1 tr1 tg1 tw1 ts1 tk1 qt1 kp1, some ((-2 : Int32), fs, th, tb, tr, tg, tw, ts, tk, qt) = some (v, fs1, th1, tb1, tr1, tg1, tw1, ts1, tk1, qt1) ∧ some ((-2 : Int32), S, kept) = some (v, S, kp1) := ⟨-2, fs, th, tb, tr, tg, tw, ts, tk, qt, kept, rfl, rfl⟩
  have i1 : f12_in (Int32.toInt64 a1) (1 : Int64) (4 : Int64) = _ := m_in (a := a1) (lo := 1) (hi := 4) (by decide) (by decide)
  have i2 : f12_in (Int32.toInt64 a2) (0 : Int64) (1 : Int64) = _ := m_in (a := a2) (lo := 0) (hi := 1) (by decide) (by decide)
  unfold f11_hold f12_hold
  rcases p_has hI with ⟨z0, e1, e2⟩ | ⟨z0, e1, e2⟩
  · rw [hL.1, e1, e2, bnd1_s, bnd1_s, if_pos rfl, if_pos rfl]; exact hno
  have hk : f11_hasLadder rungs = some 1 := by rw [hL.1]; exact e1
  rw [hk, e2, bnd1_s, bnd1_s, if_neg (show ¬ (1 : Int32) = 0 by decide), if_neg (show ¬ (1 : Int32) = 0 by decide), i1, bnd1_s]
  by_cases c1 : a1 < 1
  · rw [if_pos c1, if_pos (show a1 < nn 1 from c1), if_pos rfl]; exact hno
  rw [if_neg c1, if_neg (show ¬ a1 < nn 1 from c1)]
  by_cases c2 : 4 < a1
  · rw [if_pos c2, if_pos (show nn 4 < a1 from c2), if_pos rfl]; exact hno
  rw [if_neg c2, if_neg (show ¬ nn 4 < a1 from c2), if_neg (show ¬ (1 : Int32) = 0 by decide), i2, bnd1_s]
  by_cases c7 : a2 < 0
  · rw [if_pos c7, if_pos (show a2 < nn 0 from c7), if_pos rfl]; exact hno
  rw [if_neg c7, if_neg (show ¬ a2 < nn 0 from c7)]
  by_cases c8 : a2 ≤ 1
  · obtain ⟨n, hn1, hn2, rfl⟩ := nn_rng (x := a1) (lo := 1) (hi := 4) (by decide) (by decide) c1 c2
    obtain ⟨m, rfl⟩ : ∃ m, n = m + 1 := ⟨n - 1, by omega⟩
    have hW2 := hW.copy (r0 := tr) (g0 := tg) (w0 := tw) (s0 := ts) (k0 := tk)
    obtain ⟨v, fs1, d1, d2, d3⟩ := c_defend (m + 1) 5 (by omega) (by omega) S _ 0 fs hI.1 hW2 hL (by omega)
    obtain ⟨c, rfl, hF⟩ := d3 m rfl
    obtain ⟨b, v2, k1, k2, k3, k4⟩ := m_hold57 (kept := kept) (n := m + 1) (by omega) hI.1
    have hpw := pow_small (P := P) (n := m + 1) hP4 (by omega)
    have hpw2 := pow_small (P := P) (n := m) hP4 (by omega)
    have hpp : 0 < (2 * P + 1) ^ m := Nat.pow_pos (by omega)
    have hB : 0 < 2 * P + 1 := by omega
    have sur : ∀ ds u, dOK P (m + 1) ds → plan P R S 0 ds = some u → ∃ code, code < (2 * P + 1) ^ (m + 1) ∧ dig (2 * P + 1) code (m + 1) = ds ∧ plan P R S 0 (dig (2 * P + 1) code (m + 1)) = some u := by
      intro ds u h1 h2
      obtain ⟨code, j1, j2⟩ := dig_sur hB ds (fun c hc => by have := h1.2 c hc; omega)
      rw [h1.1] at j1 j2
      exact ⟨code, j1, j2, by rw [j2]; exact h2⟩
    have dok : ∀ code k, dOK P k (dig (2 * P + 1) code k) := fun code k => ⟨dig_len _ _ _, fun c hc => by have := dig_lt hB hc; omega⟩
    have hv : v = v2 := by
      obtain ⟨⟨ds, q1, q2⟩, q3⟩ := d2
      obtain ⟨code, j1, -, j3⟩ := sur ds v q1 q2
      have a := (k4 code v j1 j3).1
      have b := q3 _ _ (dok b (m + 1)) k3
      omega
    subst hv
    have hcc : b / (2 * P + 1) ^ m < 2 * P + 1 := by
      rw [Nat.div_lt_iff_lt_mul hpp]
      rw [Nat.pow_succ, Nat.mul_comm] at k2
      exact k2
    have hbc : b / (2 * P + 1) ^ m = c := by
      obtain ⟨g1, ⟨ds, g2, g3⟩, g4⟩ := hF
      have e9 : dig (2 * P + 1) b (m + 1) = b / (2 * P + 1) ^ m :: dig (2 * P + 1) b m := by
        show b / (2 * P + 1) ^ m % (2 * P + 1) :: _ = _
        rw [Nat.mod_eq_of_lt hcc]
      rw [e9] at k3
      have a1 := (g4 _ _ _ (by omega) (dok b m) k3).2
      obtain ⟨code, j1, j2, j3⟩ := sur (c :: ds) v (dOK_cons g1 g2) g3
      have a2 := (k4 code v j1 j3).2
      have hc2 : code / (2 * P + 1) ^ m % (2 * P + 1) = c := by
        have : code / (2 * P + 1) ^ m % (2 * P + 1) :: dig (2 * P + 1) code m = c :: ds := j2
        exact (List.cons.inj this).1
      have hcl : code / (2 * P + 1) ^ m < 2 * P + 1 := by
        rw [Nat.div_lt_iff_lt_mul hpp]
        rw [Nat.pow_succ, Nat.mul_comm] at j1
        exact j1
      rw [Nat.mod_eq_of_lt hcl] at hc2
      have hbc : b ≤ code := by
        rcases Nat.lt_or_ge code b with h | h
        · exact absurd (a2 h) (Nat.lt_irrefl _)
        · exact h
      have a3 : b / (2 * P + 1) ^ m ≤ code / (2 * P + 1) ^ m := Nat.div_le_div_right hbc
      have a4 : ¬ b / (2 * P + 1) ^ m < c := fun h => absurd (a1 h) (Nat.lt_irrefl _)
      omega
    have e4 : (2 : Int32) * S 1 + 1 = nn (2 * P + 1) := by rw [hI.1.2.2.2.1, show (2 : Int32) * nn P = nn (2 * P) from nn_mul 2 P, nn_succ]
    have hlow : f7_lowestHeight fs th tb tr tg tw ts tk hour broken rung grip want slips worn rungs people room (nn (m + 1)) = some (hgt v, hgt c, hour, broken, va_cpy rung tr 0 0 4, va_cpy grip tg 0 0 4, va_cpy want tw 0 0 4, va_cpy slips ts 0 0 4, va_cpy worn tk 0 0 9) := by
      unfold f7_lowestHeight
      rw [c_copyFrom, bnd7_s, show ((-1 : Int32)) = hgt 0 from hgt_0.symm, d1, bnd3_s]
    rw [if_pos c8, if_neg (show ¬ nn 1 < a2 from Int32.not_lt.mpr c8), if_neg (show ¬ (1 : Int32) = 0 by decide), hlow, bnd9_s, e4, lt_df, m_keeps, bnd1_s, k1, bnd3_s]
    by_cases t0 : a2 = 0
    · rw [if_pos t0, if_pos t0]
      exact ⟨_, _, _, _, _, _, _, _, _, _, _, rfl, rfl⟩
    · have e5 : nn b / nn ((2 * P + 1) ^ m) = nn (b / (2 * P + 1) ^ m) := pk_div (by omega) hpp (by omega)
      rw [if_neg t0, if_neg t0, nn_pred' m, m_power (by omega), bnd1_s, if_neg (nn0 (a := (2 * P + 1) ^ m) (by omega) hpp), e5, hbc, lt_df]
      exact ⟨_, _, _, _, _, _, _, _, _, _, _, rfl, rfl⟩
  · rw [if_neg c8, if_pos (show nn 1 < a2 from Int32.not_le.mp c8), if_pos rfl]; exact hno
end
