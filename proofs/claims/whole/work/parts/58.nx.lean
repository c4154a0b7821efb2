/-! places of all the people as numbers -/
def upN (d : Nat → Nat) (i v : Nat) : Nat → Nat := fun j => if j = i then v else d j
theorem upN_at {d : Nat → Nat} {i v : Nat} : upN d i v i = v := if_pos rfl
theorem upN_ne {d : Nat → Nat} {i j v : Nat} (h : j ≠ i) : upN d i v j = d j := if_neg h
def hc (b : Nat) (d : Nat → Nat) : Nat → Nat → Nat
  | _, 0 => 0
  | k, m + 1 => d k + b * hc b d (k + 1) m
theorem hc_lt {b : Nat} {d : Nat → Nat} : ∀ {m k : Nat}, (∀ p, k ≤ p → p < k + m → d p < b) → hc b d k m < b ^ m
  | 0, k, _ => by simp [hc]
  | m + 1, k, h => by
    have h1 := hc_lt (b := b) (d := d) (m := m) (k := k + 1) (fun p h1 h2 => h p (by omega) (by omega))
    have h2 := h k (by omega) (by omega)
    unfold hc
    rw [Nat.pow_succ, Nat.mul_comm (b ^ m) b]
    have : b * (hc b d (k + 1) m + 1) ≤ b * b ^ m := Nat.mul_le_mul_left _ h1
    rw [Nat.mul_succ] at this
    omega
theorem hc_mod {b : Nat} {d : Nat → Nat} {k m : Nat} (h : d k < b) : hc b d k (m + 1) % b = d k := by
  unfold hc
  rw [Nat.add_mul_mod_self_left, Nat.mod_eq_of_lt h]
theorem hc_div {b : Nat} {d : Nat → Nat} {k m : Nat} (h : d k < b) : hc b d k (m + 1) / b = hc b d (k + 1) m := by
  show (d k + b * hc b d (k + 1) m) / b = _
  rw [Nat.add_mul_div_left _ _ (by omega), Nat.div_eq_of_lt h, Nat.zero_add]
theorem hc_congr {b : Nat} {d e : Nat → Nat} : ∀ {m k : Nat}, (∀ p, k ≤ p → p < k + m → d p = e p) → hc b d k m = hc b e k m
  | 0, _, _ => rfl
  | m + 1, k, h => by
    unfold hc
    rw [h k (by omega) (by omega), hc_congr (fun p h1 h2 => h p (by omega) (by omega))]
theorem hc_inj {b : Nat} {d e : Nat → Nat} : ∀ {m k : Nat}, (∀ p, k ≤ p → p < k + m → d p < b ∧ e p < b) → hc b d k m = hc b e k m → ∀ p, k ≤ p → p < k + m → d p = e p
  | 0, _, _, _, _, h1, h2 => absurd h1 (by omega)
  | m + 1, k, h, he, p, h1, h2 => by
    have hk := h k (by omega) (by omega)
    have e1 := congrArg (· % b) he
    have e2 := congrArg (· / b) he
    replace e1 : hc b d k (m + 1) % b = hc b e k (m + 1) % b := e1
    replace e2 : hc b d k (m + 1) / b = hc b e k (m + 1) / b := e2
    rw [hc_mod hk.1, hc_mod hk.2] at e1
    rw [hc_div hk.1, hc_div hk.2] at e2
    by_cases e : p = k
    · subst e; exact e1
    · exact hc_inj (k := k + 1) (fun q h3 h4 => h q (by omega) (by omega)) e2 p (by omega) (by omega)
theorem hc_up {b r : Nat} {d : Nat → Nat} : ∀ {m k p : Nat}, k ≤ p → p < k + m → hc b (upN d p r) k m + d p * b ^ (p - k) = hc b d k m + r * b ^ (p - k)
  | 0, _, _, h1, h2 => absurd h1 (by omega)
  | m + 1, k, p, h1, h2 => by
    unfold hc
    by_cases e : p = k
    · subst e
      rw [upN_at, hc_congr (e := d) (fun q h3 _ => upN_ne (by omega)), Nat.sub_self, Nat.pow_zero]
      omega
    · have ih := hc_up (b := b) (r := r) (d := d) (m := m) (k := k + 1) (p := p) (by omega) (by omega)
      have hp : b ^ (p - k) = b * b ^ (p - (k + 1)) := by
        rw [show p - k = (p - (k + 1)) + 1 by omega, Nat.pow_succ, Nat.mul_comm]
      have ih2 := congrArg (b * ·) ih
      replace ih2 : b * (hc b (upN d p r) (k + 1) m + d p * b ^ (p - (k + 1))) = b * (hc b d (k + 1) m + r * b ^ (p - (k + 1))) := ih2
      rw [Nat.mul_add, Nat.mul_add, Nat.mul_left_comm b (d p), Nat.mul_left_comm b r] at ih2
      rw [upN_ne (by omega), hp]
      omega
theorem hc_end {b : Nat} {d : Nat → Nat} : ∀ {m k : Nat}, hc b d k (m + 1) = hc b d k m + d (k + m) * b ^ m
  | 0, k => by simp [hc]
  | m + 1, k => by
    have ih := hc_end (b := b) (d := d) (m := m) (k := k + 1)
    show d k + b * hc b d (k + 1) (m + 1) = d k + b * hc b d (k + 1) m + d (k + (m + 1)) * b ^ (m + 1)
    rw [ih, Nat.mul_add, Nat.pow_succ, show k + 1 + m = k + (m + 1) by omega, Nat.mul_left_comm, Nat.mul_comm b (b ^ m)]
    omega
theorem hc_swap {b x y : Nat} {d : Nat → Nat} {m k p q : Nat} (hp : k ≤ p) (hp2 : p < k + m) (hq : k ≤ q) (hq2 : q < k + m) (hpq : p ≠ q) : hc b (upN (upN d p x) q y) k m + d p * b ^ (p - k) + d q * b ^ (q - k) = hc b d k m + x * b ^ (p - k) + y * b ^ (q - k) := by
  have h1 := hc_up (b := b) (r := x) (d := d) hp hp2
  have h2 := hc_up (b := b) (r := y) (d := upN d p x) hq hq2
  rw [upN_ne (show q ≠ p by omega)] at h2
  omega
/-- the reference's row with those who have not fallen on told rungs -/
def SD (P : Nat) (S : Nat → Int32) (d : Nat → Nat) : Nat → Int32 := fun i => if (46 ≤ i ∧ i < 46 + 4 * P ∧ i % 4 = 2) ∧ ¬ S i < 0 then nn (d ((i - 46) / 4)) else S i
theorem SD_o {P : Nat} {S : Nat → Int32} {d : Nat → Nat} {i : Nat} (h : ¬ (46 ≤ i ∧ i < 46 + 4 * P ∧ i % 4 = 2)) : SD P S d i = S i := if_neg (fun h2 => h h2.1)
theorem SD_u {P : Nat} {S : Nat → Int32} {d : Nat → Nat} {p : Nat} (hp : p < P) (h : ¬ S (46 + 4 * p) < 0) : SD P S d (46 + 4 * p) = nn (d p) := by
  unfold SD
  rw [if_pos ⟨by omega, h⟩]
  congr 2
  omega
theorem SD_f {P : Nat} {S : Nat → Int32} {d : Nat → Nat} {p : Nat} (h : S (46 + 4 * p) < 0) : SD P S d (46 + 4 * p) = S (46 + 4 * p) := if_neg (fun h2 => h2.2 h)
theorem SD_congr {P : Nat} {S : Nat → Int32} {d e : Nat → Nat} (h : ∀ p, p < P → ¬ S (46 + 4 * p) < 0 → d p = e p) : SD P S d = SD P S e := by
  funext i
  unfold SD
  by_cases c : (46 ≤ i ∧ i < 46 + 4 * P ∧ i % 4 = 2) ∧ ¬ S i < 0
  · rw [if_pos c, if_pos c]
    have hi : i = 46 + 4 * ((i - 46) / 4) := by omega
    rw [h ((i - 46) / 4) (by omega) (by rw [← hi]; exact c.2)]
  · rw [if_neg c, if_neg c]
theorem SD_up {P : Nat} {S : Nat → Int32} {d : Nat → Nat} {p r : Nat} (hp : p < P) (h : ¬ S (46 + 4 * p) < 0) : upd (SD P S d) (46 + 4 * p) (nn r) = SD P S (upN d p r) := by
  funext i
  by_cases e : i = 46 + 4 * p
  · subst e
    rw [upd_at, SD_u hp h, upN_at]
  · rw [upd_ne e]
    unfold SD
    by_cases c : (46 ≤ i ∧ i < 46 + 4 * P ∧ i % 4 = 2) ∧ ¬ S i < 0
    · rw [if_pos c, if_pos c, upN_ne (by omega)]
    · rw [if_neg c, if_neg c]
theorem SD_self {P : Nat} {S : Nat → Int32} {d : Nat → Nat} (h : ∀ p, p < P → ¬ S (46 + 4 * p) < 0 → S (46 + 4 * p) = nn (d p)) : SD P S d = S := by
  funext i
  unfold SD
  by_cases c : (46 ≤ i ∧ i < 46 + 4 * P ∧ i % 4 = 2) ∧ ¬ S i < 0
  · have hi : i = 46 + 4 * ((i - 46) / 4) := by omega
    rw [if_pos c]
    have := h ((i - 46) / 4) (by omega) (by rw [← hi]; exact c.2)
    rw [← hi] at this
    exact this.symm
  · rw [if_neg c]
/-- a place that could be -/
def VD (R P : Nat) (S : Nat → Int32) (d : Nat → Nat) : Prop := ∀ p, p < P → d p < R ∧ (S (46 + 4 * p) < 0 → d p = 0) ∧ (¬ S (46 + 4 * p) < 0 → S (13 + 4 * d p) = 0)
section
variable {S : Nat → Int32} {R P : Nat} {d e : Nat → Nat}
theorem VD.d9 (h : VD R P S d) (hR : R < 10) : ∀ p, 0 ≤ p → p < 0 + P → d p < 9 := fun p _ hp => by have := (h p (by omega)).1; omega
theorem VD.dR (h : VD R P S d) : ∀ p, 0 ≤ p → p < 0 + P → d p < R := fun p _ hp => (h p (by omega)).1
theorem pow9 (hP : P < 5) {b : Nat} (hb : b < 10) : b ^ P ≤ 6561 := by
  have h1 : b ^ P ≤ 9 ^ P := Nat.pow_le_pow_left (by omega) P
  have h2 : 9 ^ P ≤ 9 ^ 4 := Nat.pow_le_pow_right (by omega) (by omega)
  have h3 : 9 ^ 4 = 6561 := by decide
  omega
theorem VD.c9 (h : VD R P S d) (hR : R < 10) (hP : P < 5) : hc 9 d 0 P < 9 ^ P ∧ hc 9 d 0 P < 6561 := by
  have h1 := hc_lt (h.d9 hR)
  have h2 := pow9 hP (b := 9) (by omega)
  exact ⟨h1, by omega⟩
theorem VD.cR (h : VD R P S d) (hR : R < 10) (hP : P < 5) : hc R d 0 P < 6561 := by
  have h1 := hc_lt h.dR
  have h2 := pow9 hP hR
  omega
theorem IV_SD (hI : IV R P S) (hd : VD R P S d) : IV R P (SD P S d) := by
  obtain ⟨⟨h1, h2, h3, h4, h5, h6, h7, h8⟩, hok, hgr⟩ := hI
  refine ⟨⟨h1, h2, (SD_o (by omega)).trans h3, (SD_o (by omega)).trans h4, fun r hr => ?_, ⟨fun r hr hr9 => (SD_o (by omega)).trans (h6.1 r hr hr9), fun r hr hr9 => (SD_o (by omega)).trans (h6.2.1 r hr hr9), fun i hi hi2 => (SD_o (by omega)).trans (h6.2.2 i hi hi2)⟩, fun p hp => ?_, fun p hp => ?_⟩, fun p hp => ?_, fun p hp => ?_⟩
  · rw [SD_o (by omega)]; exact h5 r hr
  · obtain ⟨w, hw, e⟩ := h7 p hp
    exact ⟨w, hw, (SD_o (by omega)).trans e⟩
  · obtain ⟨t, a, b, e⟩ := h8 p hp
    exact ⟨t, a, b, (SD_o (by omega)).trans e⟩
  · by_cases h : S (46 + 4 * p) < 0
    · rcases hok p hp with e | ⟨r, hr, e, -⟩
      · exact Or.inl ((SD_f h).trans e)
      · rw [e] at h; exact absurd h (nlt0 (by omega))
    · obtain ⟨g1, -, g3⟩ := hd p hp
      exact Or.inr ⟨d p, g1, SD_u hp h, (SD_o (by omega)).trans (g3 h)⟩
  · obtain ⟨g, t, a, b, c, e1, e2⟩ := hgr p hp
    exact ⟨g, t, a, b, c, (SD_o (by omega)).trans e1, (SD_o (by omega)).trans e2⟩
/-- where all are now -/
def d0F (S : Nat → Int32) : Nat → Nat := fun p => (S (46 + 4 * p)).toNatClampNeg
theorem d0_VD (hI : IV R P S) (hR : 0 < R) : VD R P S (d0F S) := by
  intro p hp
  have hR9 := hI.1.1
  unfold d0F
  rcases hI.2.1 p hp with e | ⟨r, hr, e, h0⟩
  · rw [e]
    exact ⟨by show Int32.toNatClampNeg (-1) < R; rw [show Int32.toNatClampNeg (-1) = 0 by decide]; exact hR, fun _ => by decide, fun h => absurd (show (-1 : Int32) < 0 by decide) h⟩
  · rw [e, nn_nat (by omega)]
    exact ⟨hr, fun h => absurd h (nlt0 (by omega)), fun _ => h0⟩
theorem SD_d0 (hI : IV R P S) : SD P S (d0F S) = S := by
  have hR9 := hI.1.1
  refine SD_self (fun p hp h => ?_)
  unfold d0F
  rcases hI.2.1 p hp with e | ⟨r, hr, e, -⟩
  · rw [e] at h; exact absurd (show (-1 : Int32) < 0 by decide) h
  · rw [e, nn_nat (by omega)]
/-! the reference's numbers -/
theorem m_up {p : Nat} (hP4 : P < 5) (hR9 : R < 10) (hd : VD R P S d) (hp : p < P) : f12_isUp (SD P S d) (nn p) = some (if S (46 + 4 * p) < 0 then 0 else 1) := by
  rw [m_isUp (by omega)]
  by_cases h : S (46 + 4 * p) < 0
  · rw [SD_f h]
  · have := (hd p hp).1
    rw [SD_u hp h, if_neg h, if_neg (nlt0 (by omega))]
theorem m_code (hI : IV R P S) (hd : VD R P S d) : f12_code (SD P S d) = some (nn (hc 9 d 0 P)) := by
  have hR9 := hI.1.1
  have hP4 := hI.1.2.1
  have hI2 := IV_SD hI hd
  unfold f12_code
  have h1 : SD P S d 1 - 1 = hgt P := by rw [hI2.1.2.2.2.1]; rfl
  rw [lt_df, h1, iter_for (s := ((0 : Int32), hgt P)) (st := fun j => (nn (hc 9 d (P - j) j), hgt (P - j))) (n := P) (out := nn (hc 9 d 0 P)) rfl (by omega) ?hs ?he]
  · exact bnd1_s _ _
  case hs =>
    intro j hj
    obtain ⟨p, hp⟩ : ∃ p, P - j = p + 1 := ⟨P - j - 1, by omega⟩
    have hp2 : P - (j + 1) = p := by omega
    have hpP : p < P := by omega
    have e9 : (9 : Int32) * nn (hc 9 d (p + 1) j) = nn (9 * hc 9 d (p + 1) j) := nn_mul 9 _
    unfold f12_code_B11 f12_code_J37
    dsimp only
    rw [hp, hp2, hgt_succ, if_neg (nlt0 (by omega)), m_up hP4 hR9 hd hpP, bnd1_s, e9]
    have hcd : hc 9 d p (j + 1) = d p + 9 * hc 9 d (p + 1) j := rfl
    rw [hcd]
    by_cases h : S (46 + 4 * p) < 0
    · rw [if_pos h, if_pos rfl, lt_df, lt_df, hgt_m, Int32.add_zero, (hd p hpP).2.1 h, Nat.zero_add]
    · rw [if_neg h, if_neg (show ¬ (1 : Int32) = 0 by decide), m_p0 (by omega), bnd1_s, SD_u hpP h, lt_df, lt_df, hgt_m, nn_add, Nat.add_comm]
  case he =>
    unfold f12_code_B11
    dsimp only
    rw [Nat.sub_self, if_pos (show hgt 0 < 0 by decide)]
def mxN (k : Nat) (d e : Nat → Nat) : Nat → Nat := fun p => if p < k then d p else e p
theorem mxN_s {k : Nat} : upN (mxN k d e) k (d k) = mxN (k + 1) d e := by
  funext p
  unfold upN mxN
  by_cases h : p = k
  · subst h; rw [if_pos rfl, if_pos (by omega)]
  · rw [if_neg h]
    by_cases h2 : p < k
    · rw [if_pos h2, if_pos (by omega)]
    · rw [if_neg h2, if_neg (by omega)]
theorem m_standsAs (hI : IV R P S) (hd : VD R P S d) (he : VD R P S e) : f12_standsAs (SD P S e) (nn (hc 9 d 0 P)) = some (SD P S d) := by
  have hR9 := hI.1.1
  have hP4 := hI.1.2.1
  have hm : ∀ k, VD R P S (mxN k d e) := by
    intro k p hp
    unfold mxN
    by_cases h : p < k
    · rw [if_pos h]; exact hd p hp
    · rw [if_neg h]; exact he p hp
  unfold f12_standsAs
  rw [iter_for (s := (SD P S e, nn (hc 9 d 0 P), (0 : Int32))) (st := fun k => (SD P S (mxN k d e), nn (hc 9 d k (P - k)), nn k)) (n := P) (out := SD P S d) ?h0 (by omega) ?hs ?he]
  · exact bnd1_s _ _
  case h0 =>
    have : mxN 0 d e = e := by funext p; exact if_neg (by omega)
    rw [this]; rfl
  case hs =>
    intro k hk
    have hk4 : k < 4 := by omega
    have hI2 := IV_SD hI (hm k)
    have hlt : hc 9 d k (P - k) < 6561 := by
      have h1 := hc_lt (b := 9) (d := d) (m := P - k) (k := k) (fun p h1 h2 => by have := (hd p (by omega)).1; omega)
      have h2 : 9 ^ (P - k) ≤ 9 ^ 4 := Nat.pow_le_pow_right (by omega) (by omega)
      have h3 : 9 ^ 4 = 6561 := by decide
      omega
    have hdk : d k < 9 := by have := (hd k hk).1; omega
    have hsp : P - k = (P - (k + 1)) + 1 := by omega
    have e1 : nn (hc 9 d k (P - k)) / 9 = nn (hc 9 d (k + 1) (P - (k + 1))) := by
      have := pk_div (a := hc 9 d k (P - k)) (d := 9) (by omega) (by decide) (by decide)
      rw [show nn (hc 9 d k (P - k)) / 9 = nn (hc 9 d k (P - k) / 9) from this]
      congr 1
      conv => lhs; rw [hsp]
      exact hc_div hdk
    have e2 : nn (hc 9 d k (P - k)) - nn (hc 9 d k (P - k)) / 9 * 9 = nn (d k) := by
      have := pk_rem (a := hc 9 d k (P - k)) (d := 9) (by omega) (by decide) (by decide)
      rw [show nn (hc 9 d k (P - k)) - nn (hc 9 d k (P - k)) / 9 * 9 = nn (hc 9 d k (P - k) % 9) from this]
      congr 1
      conv => lhs; rw [hsp]
      exact hc_mod hdk
    unfold f12_standsAs_B4 f12_standsAs_J37
    dsimp only
    rw [if_neg (show ¬ SD P S (mxN k d e) 1 ≤ nn k by rw [hI2.1.2.2.2.1]; exact nle (by omega) (by omega) (by omega)), m_up hP4 hR9 (hm k) hk, bnd1_s]
    by_cases h : S (46 + 4 * k) < 0
    · rw [if_pos h, if_pos rfl, lt_df, lt_df, nn_succ, e1]
      congr 3
      refine SD_congr (fun p hp hf => ?_)
      unfold mxN
      by_cases h2 : p < k
      · rw [if_pos h2, if_pos (by omega)]
      · have : p ≠ k := fun h3 => hf (h3 ▸ h)
        rw [if_neg h2, if_neg (by omega)]
    · rw [if_neg h, if_neg (show ¬ (1 : Int32) = 0 by decide), e2, lt_df, (ix_p0 hk4).1, if_neg (ix_p0 hk4).2, lt_df, lt_df, lt_df, nn_succ, e1, SD_up hk h, mxN_s]
  case he =>
    unfold f12_standsAs_B4
    dsimp only
    have hI2 := IV_SD hI (hm P)
    rw [if_pos (show SD P S (mxN P d e) 1 ≤ nn P by rw [hI2.1.2.2.2.1]; exact Int32.le_refl _)]
    congr 2
    exact SD_congr (fun p hp _ => if_pos hp)
theorem m_states (hP : S 1 = nn P) (hP4 : P < 5) : f12_states S = some (nn (9 ^ P)) := by
  unfold f12_states
  rw [iter_for (s := ((1 : Int32), (0 : Int32))) (st := fun k => (nn (9 ^ k), nn k)) (n := P) (out := nn (9 ^ P)) rfl (by omega) ?hs ?he]
  · exact bnd1_s _ _
  case hs =>
    intro k hk
    unfold f12_states_B4
    dsimp only
    rw [hP, if_neg (nle (by omega) (by omega) (by omega)), lt_df, lt_df, nn_succ, show (9 : Int32) = nn 9 from rfl, nn_mul, Nat.pow_succ]
  case he =>
    unfold f12_states_B4
    dsimp only
    rw [hP, if_pos (Int32.le_refl _)]
/-- are the told ones on the rungs that they want -/
def glF (S : Nat → Int32) (set : Int32) (d : Nat → Nat) : Nat → Bool
  | 0 => true
  | k + 1 => glF S set d k && (decide (((set >>> (nn k &&& 31)) &&& 1) = 0) || (decide (¬ S (46 + 4 * k) < 0) && decide (nn (d k) = S (48 + 4 * k))))
theorem glF_mono {set : Int32} : ∀ {k j : Nat}, k ≤ j → glF S set d j = true → glF S set d k = true := by
  intro k j h
  induction j with
  | zero => intro h2; obtain rfl : k = 0 := by omega
            exact h2
  | succ j ih =>
    intro h2
    by_cases e : k = j + 1
    · subst e; exact h2
    · have h3 : (glF S set d j && (decide (((set >>> (nn j &&& 31)) &&& 1) = 0) || (decide (¬ S (46 + 4 * j) < 0) && decide (nn (d j) = S (48 + 4 * j))))) = true := h2
      rw [Bool.and_eq_true] at h3
      exact ih (by omega) h3.1
theorem bit01 (x : Int32) : x &&& 1 = 0 ∨ x &&& 1 = 1 := by
  obtain ⟨j, hj, e⟩ := pk_andE x (m := 1) 1 (by decide)
  rcases (show j = 0 ∨ j = 1 by omega) with rfl | rfl
  · exact Or.inl e
  · exact Or.inr e
theorem m_isGoal {set : Int32} (hI : IV R P S) (hd : VD R P S d) : f12_isGoal (SD P S d) set = some (if glF S set d P then 1 else 0) := by
  have hR9 := hI.1.1
  have hP4 := hI.1.2.1
  have hI2 := IV_SD hI hd
  unfold f12_isGoal
  obtain ⟨a, e, h⟩ := iter_wfF (B := fun (z : Int32) => f12_isGoal_B2 (SD P S d) set z) (s := (0 : Int32)) (n := P)
    (I := fun m z => ∃ k, m + k = P ∧ z = nn k ∧ glF S set d k = true)
    (Po := fun a => (a = .inl 0 ∧ glF S set d P = false) ∨ (a = .inr () ∧ glF S set d P = true))
    ⟨0, rfl, rfl, rfl⟩ (by omega)
    (by
      rintro m z ⟨k, hk, rfl, hg⟩
      unfold f12_isGoal_B2 f12_isOf
      by_cases hkP : k < P
      · have hs : glF S set d (k + 1) = (glF S set d k && (decide (((set >>> (nn k &&& 31)) &&& 1) = 0) || (decide (¬ S (46 + 4 * k) < 0) && decide (nn (d k) = S (48 + 4 * k))))) := rfl
        rw [hg, Bool.true_and] at hs
        rw [if_neg (show ¬ SD P S d 1 ≤ nn k by rw [hI2.1.2.2.2.1]; exact nle (by omega) (by omega) (by omega)), m_up hP4 hR9 hd hkP, m_p0 (by omega), m_p2 (by omega)]
        rcases bit01 (set >>> (nn k &&& 31)) with hb | hb
        · left
          rw [hb, if_neg (show ¬ (0 : Int32) = 1 by decide), bnd1_s, if_pos rfl, lt_df, nn_succ]
          refine ⟨_, m - 1, rfl, by omega, k + 1, by omega, rfl, ?_⟩
          rw [hs, hb]; rfl
        · rw [hb, decide_eq_false (show ¬ (1 : Int32) = 0 by decide), Bool.false_or] at hs
          rw [hb, if_pos rfl, bnd1_s, if_neg (show ¬ (1 : Int32) = 0 by decide), bnd1_s]
          by_cases h : S (46 + 4 * k) < 0
          · right
            rw [decide_eq_false (show ¬ ¬ S (46 + 4 * k) < 0 from fun h2 => h2 h), Bool.false_and] at hs
            rw [if_pos h, if_pos rfl]
            refine ⟨_, rfl, Or.inl ⟨rfl, ?_⟩⟩
            cases hf : glF S set d P with
            | false => rfl
            | true =>
              have := glF_mono (S := S) (set := set) (d := d) (show k + 1 ≤ P by omega) hf
              rw [hs] at this; cases this
          · rw [decide_eq_true h, Bool.true_and] at hs
            rw [if_neg h, if_neg (show ¬ (1 : Int32) = 0 by decide), bnd1_s, bnd1_s, SD_u hkP h, SD_o (show ¬ (46 ≤ 48 + 4 * k ∧ 48 + 4 * k < 46 + 4 * P ∧ (48 + 4 * k) % 4 = 2) by omega)]
            by_cases h2 : nn (d k) = S (48 + 4 * k)
            · left
              rw [if_pos h2, lt_df, nn_succ]
              refine ⟨_, m - 1, rfl, by omega, k + 1, by omega, rfl, ?_⟩
              rw [hs, decide_eq_true h2]
            · right
              rw [decide_eq_false h2] at hs
              rw [if_neg h2]
              refine ⟨_, rfl, Or.inl ⟨rfl, ?_⟩⟩
              cases hf : glF S set d P with
              | false => rfl
              | true =>
                have := glF_mono (S := S) (set := set) (d := d) (show k + 1 ≤ P by omega) hf
                rw [hs] at this; cases this
      · right
        obtain rfl : k = P := by omega
        rw [if_pos (show SD k S d 1 ≤ nn k by rw [hI2.1.2.2.2.1]; exact Int32.le_refl _)]
        exact ⟨_, rfl, Or.inr ⟨rfl, hg⟩⟩)
  rw [e]
  rcases h with ⟨rfl, h⟩ | ⟨rfl, h⟩
  · rw [bndS0_l, h]; rfl
  · rw [bndS0_r, h]; rfl
end
