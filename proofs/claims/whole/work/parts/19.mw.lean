theorem nle {a b : Nat} (ha : a < 2147483648) (hb : b < 2147483648) (h : ¬ a ≤ b) : ¬ (nn a ≤ nn b) := by rw [nn_le ha hb]; exact h
theorem nleT {a b : Nat} (ha : a < 2147483648) (hb : b < 2147483648) (h : a ≤ b) : nn a ≤ nn b := by rw [nn_le ha hb]; exact h
theorem nlt {a b : Nat} (ha : a < 2147483648) (hb : b < 2147483648) (h : ¬ a < b) : ¬ (nn a < nn b) := by rw [nn_lt ha hb]; exact h
theorem nltT {a b : Nat} (ha : a < 2147483648) (hb : b < 2147483648) (h : a < b) : nn a < nn b := by rw [nn_lt ha hb]; exact h
theorem nlt0 {a : Nat} (ha : a < 2147483648) : ¬ (nn a < (0 : Int32)) := by rw [nn_lt0 ha]; exact id
theorem n0le {a : Nat} (ha : a < 2147483648) : (0 : Int32) ≤ nn a := by rw [nn_0le ha]; trivial
theorem m1lt {a : Nat} (ha : a < 2147483648) : (-1 : Int32) < nn a := by rw [nn_m1lt ha]; trivial
theorem upd_at {f : Nat → Int32} {i : Nat} {x : Int32} : upd f i x i = x := by simp [upd]
theorem upd_ne {f : Nat → Int32} {i j : Nat} {x : Int32} (h : j ≠ i) : upd f i x j = f j := by simp [upd, h]
/-! the broken rungs as bits -/
def bt (b r : Nat) : Int32 := (nn b >>> (nn r &&& 31)) &&& 1
theorem bt01 : ∀ b, b < 512 → ∀ r, r < 9 → bt b r = 0 ∨ bt b r = 1 := by decide +kernel
theorem bt_or : ∀ b, b < 512 → ∀ r, r < 9 → (nn b ||| ((1 : Int32) <<< (nn r &&& 31))) = nn (b ||| 2 ^ r) ∧ b ||| 2 ^ r < 512 ∧ ∀ q, q < 9 → bt (b ||| 2 ^ r) q = if q = r then 1 else bt b q := by decide +kernel
theorem bt_clr : ∀ b, b < 512 → ∀ r, r < 9 → (nn b &&& (((1 : Int32) <<< (nn r &&& 31)) ^^^ (-1 : Int32))) = nn (b &&& (511 - 2 ^ r)) ∧ b &&& (511 - 2 ^ r) < 512 ∧ ∀ q, q < 9 → bt (b &&& (511 - 2 ^ r)) q = if q = r then 0 else bt b q := by decide +kernel
/-! the relation between a world of the class and the reference's row S -/
def RB (S : Nat → Int32) (broken : Int32) : Prop := ∃ b, b < 512 ∧ broken = nn b ∧ ∀ r, r < 9 → S (13 + 4 * r) = bt b r
def RWd (S : Nat → Int32) (hour broken : Int32) (rung grip want slips worn : Nat → Int32) : Prop :=
  hour = S 2 ∧ RB S broken ∧ (∀ p, p < 4 → rung p = S (46 + 4 * p)) ∧ (∀ p, p < 4 → grip p = S (47 + 4 * p)) ∧ (∀ p, p < 4 → want p = S (48 + 4 * p)) ∧ (∀ p, p < 4 → slips p = S (49 + 4 * p)) ∧ (∀ r, r < 9 → worn r = S (12 + 4 * r))
def RLd (R P : Nat) (S : Nat → Int32) (rungs people : Int32) (room strength weight told : Nat → Int32) : Prop :=
  rungs = nn R ∧ people = nn P ∧ (∀ r, r < R → room r = S (10 + 4 * r)) ∧ (∀ r, r < R → strength r = S (11 + 4 * r)) ∧ (∀ p, p < P → weight p = S (62 + 2 * p)) ∧ (∀ p, p < P → told p = S (63 + 2 * p))
def OKp (R : Nat) (S : Nat → Int32) (p : Nat) : Prop := S (46 + 4 * p) = -1 ∨ ∃ r, r < R ∧ S (46 + 4 * p) = nn r ∧ S (13 + 4 * r) = 0
/-- nothing is told beyond the rungs and the people -/
def ZR (R P : Nat) (S : Nat → Int32) : Prop := (∀ r, R ≤ r → r < 9 → S (13 + 4 * r) = 0) ∧ (∀ r, R ≤ r → r < 9 → S (12 + 4 * r) = 0) ∧ (∀ i, 46 + 4 * P ≤ i → i < 62 → S i = 0)
def IV0 (R P : Nat) (S : Nat → Int32) : Prop := R < 10 ∧ P < 5 ∧ S 0 = nn R ∧ S 1 = nn P ∧ (∀ r, r < 9 → S (13 + 4 * r) = 0 ∨ S (13 + 4 * r) = 1) ∧ ZR R P S ∧ (∀ p, p < P → ∃ w, w < R ∧ S (48 + 4 * p) = nn w) ∧ (∀ p, p < P → ∃ t, 1 ≤ t ∧ t < 31 ∧ S (63 + 2 * p) = nn t)
def GRp (S : Nat → Int32) (p : Nat) : Prop := ∃ g t, 1 ≤ g ∧ g ≤ t ∧ t < 31 ∧ S (47 + 4 * p) = nn g ∧ S (63 + 2 * p) = nn t
def IV (R P : Nat) (S : Nat → Int32) : Prop := IV0 R P S ∧ (∀ p, p < P → OKp R S p) ∧ ∀ p, p < P → GRp S p
/-- what never changes but by a new ladder -/
def St (S S' : Nat → Int32) : Prop := S' 0 = S 0 ∧ S' 1 = S 1 ∧ (∀ r, r < 9 → S' (10 + 4 * r) = S (10 + 4 * r) ∧ S' (11 + 4 * r) = S (11 + 4 * r)) ∧ (∀ k, 62 ≤ k → S' k = S k)
theorem St.rf {S : Nat → Int32} : St S S := ⟨rfl, rfl, fun _ _ => ⟨rfl, rfl⟩, fun _ _ => rfl⟩
theorem St.tr {S T U : Nat → Int32} (h : St S T) (g : St T U) : St S U := ⟨g.1.trans h.1, g.2.1.trans h.2.1, fun r hr => ⟨(g.2.2.1 r hr).1.trans (h.2.2.1 r hr).1, (g.2.2.1 r hr).2.trans (h.2.2.1 r hr).2⟩, fun k hk => (g.2.2.2 k hk).trans (h.2.2.2 k hk)⟩
theorem RLd.st {R P : Nat} {S S' : Nat → Int32} {rungs people : Int32} {room strength weight told : Nat → Int32} (h : RLd R P S rungs people room strength weight told) (hs : St S S') (hR : R < 10) : RLd R P S' rungs people room strength weight told := by
  obtain ⟨h1, h2, h3, h4, h5, h6⟩ := h
  exact ⟨h1, h2, fun r hr => (h3 r hr).trans (hs.2.2.1 r (by omega)).1.symm, fun r hr => (h4 r hr).trans (hs.2.2.1 r (by omega)).2.symm, fun p hp => (h5 p hp).trans (hs.2.2.2 _ (by omega)).symm, fun p hp => (h6 p hp).trans (hs.2.2.2 _ (by omega)).symm⟩
/-! beside, room, steps, passes -/
def sRg (S : Nat → Int32) (y : Int32) : Bool := decide (0 ≤ y) && decide (y < S 0)
def sWh (S : Nat → Int32) (y : Int32) : Bool := sRg S y && decide (S (13 + 4 * y.toNatClampNeg) = 0)
def sBes (S : Nat → Int32) (x w : Int32) : Int32 := if x < 0 then -1 else if sWh S (x + w) then x + w else if sRg S (x + w) && sWh S (x + w + w) then x + w + w else -1
theorem sRg_iff {S : Nat → Int32} {R : Nat} (hR : S 0 = nn R) (hR9 : R < 10) {y : Int32} : sRg S y = true ↔ ∃ r, r < R ∧ y = nn r := by
  unfold sRg
  rw [hR]
  simp only [Bool.and_eq_true, decide_eq_true_eq]
  constructor
  · rintro ⟨h1, h2⟩
    exact nn_of_lt (Int32.not_lt.mpr h1) (by omega) h2
  · rintro ⟨r, h, rfl⟩
    exact ⟨by rw [nn_0le (by omega)]; trivial, by rw [nn_lt (by omega) (by omega)]; exact h⟩
theorem sWh_iff {S : Nat → Int32} {R : Nat} (hR : S 0 = nn R) (hR9 : R < 10) {y : Int32} : sWh S y = true ↔ ∃ r, r < R ∧ y = nn r ∧ S (13 + 4 * r) = 0 := by
  unfold sWh
  rw [Bool.and_eq_true, sRg_iff hR hR9, decide_eq_true_eq]
  constructor
  · rintro ⟨⟨r, h, rfl⟩, h2⟩
    rw [nn_nat (by omega)] at h2
    exact ⟨r, h, rfl, h2⟩
  · rintro ⟨r, h, rfl, h2⟩
    exact ⟨⟨r, h, rfl⟩, by rw [nn_nat (by omega)]; exact h2⟩
theorem m_isRung' {S : Nat → Int32} {R : Nat} (hR : S 0 = nn R) (hR9 : R < 10) (x : Int32) : f12_isRung S x = some (if sRg S x then 1 else 0) := by
  rw [m_isRung hR hR9]
  unfold sRg
  rw [hR]
  simp only [Bool.and_eq_true, decide_eq_true_eq]
theorem m_isWhole {S : Nat → Int32} {R : Nat} (hR : S 0 = nn R) (hR9 : R < 10) (x : Int32) : f12_isWhole S x = some (if sWh S x then 1 else 0) := by
  unfold f12_isWhole
  rw [m_isRung' hR hR9]
  unfold sWh
  cases h : sRg S x with
  | false => simp [bnd1]
  | true =>
    obtain ⟨r, hr, rfl⟩ := (sRg_iff hR hR9).mp h
    simp only [bnd1, if_true, Bool.true_and, decide_eq_true_eq]
    rw [if_neg (by decide), m_r3 (by omega), nn_nat (by omega)]
    dsimp only
    split <;> rfl
theorem m_beside {S : Nat → Int32} {R : Nat} (hR : S 0 = nn R) (hR9 : R < 10) (x w : Int32) : f12_beside S x w = some (sBes S x w) := by
  unfold f12_beside sBes
  have e : x + (2 : Int32) * w = x + w + w := by rw [Int32.two_mul, Int32.add_assoc]
  rw [e, m_isWhole hR hR9, m_isRung' hR hR9, m_isWhole hR hR9]
  by_cases h : x < 0
  · rw [if_pos h, if_neg (fun h2 => Int32.not_lt.mpr h2 h)]
  · rw [if_neg h, if_pos (Int32.not_lt.mp h)]
    cases h1 : sWh S (x + w) <;> cases h2 : sRg S (x + w) <;> cases h3 : sWh S (x + w + w) <;> simp [bnd1, lt]
theorem c_isBroken {b r : Nat} : f10_isBroken (nn b) (nn r) = some (if bt b r = 0 then 0 else 1) := by
  unfold f10_isBroken bt
  split <;> rfl
theorem c_beside {S : Nat → Int32} {R : Nat} {broken : Int32} (hR : S 0 = nn R) (hR9 : R < 10) (hB : RB S broken) (x w : Int32) : f10_beside broken (nn R) x w = some (sBes S x w) := by
  obtain ⟨b, hb, rfl, hf⟩ := hB
  have far : ∀ y : Int32, (if y < 0 then f10_beside_J64 (nn b) y else if nn R ≤ y then f10_beside_J64 (nn b) y else f10_beside_J65 (nn b) y 1) = some (if sWh S y then y else -1) := by
    intro y
    unfold f10_beside_J64 f10_beside_J65
    rw [if_pos rfl, if_neg (by decide : ¬ (1 : Int32) = 0)]
    by_cases h : y < 0
    · rw [if_pos h, if_neg]
      intro h2
      obtain ⟨r, hr, rfl, _⟩ := (sWh_iff hR hR9).mp h2
      rw [nn_lt0 (by omega)] at h; exact h
    · rw [if_neg h]
      by_cases h2 : nn R ≤ y
      · rw [if_pos h2, if_neg]
        intro h3
        obtain ⟨r, hr, rfl, _⟩ := (sWh_iff hR hR9).mp h3
        rw [nn_le (by omega) (by omega)] at h2; omega
      · rw [if_neg h2]
        obtain ⟨r, hr, rfl⟩ := nn_of_lt h (by omega) (Int32.not_le.mp h2)
        show (if bt b r = 0 then _ else _) = _
        rw [← hf r (by omega)]
        by_cases h4 : S (13 + 4 * r) = 0
        · rw [if_pos h4, if_pos ((sWh_iff hR hR9).mpr ⟨r, hr, rfl, h4⟩)]
        · rw [if_neg h4, if_neg]
          intro h5
          obtain ⟨r', hr', e, h6⟩ := (sWh_iff hR hR9).mp h5
          have := nn_inj (by omega) (by omega) e
          subst this; exact h4 h6
  unfold f10_beside sBes lt
  dsimp only
  rw [far]
  by_cases h : x < 0
  · rw [if_pos h, if_pos h]
  · rw [if_neg h, if_neg h]
    by_cases h1 : x + w < 0
    · have n1 : ¬ sRg S (x + w) = true := fun h2 => by
        obtain ⟨r, hr, e⟩ := (sRg_iff hR hR9).mp h2
        rw [e, nn_lt0 (by omega)] at h1; exact h1
      have n2 : ¬ sWh S (x + w) = true := fun h2 => n1 (by unfold sWh at h2; simp only [Bool.and_eq_true] at h2; exact h2.1)
      rw [if_pos h1, if_neg n2, if_neg (by rw [Bool.and_eq_true]; exact fun h9 => n1 h9.1)]
    · rw [if_neg h1]
      by_cases h2 : x + w < nn R
      · rw [if_pos h2]
        obtain ⟨r, hr, e⟩ := nn_of_lt h1 (by omega) h2
        have y1 : sRg S (x + w) = true := (sRg_iff hR hR9).mpr ⟨r, hr, e⟩
        rw [y1, Bool.true_and]
        have e2 : ((nn b >>> ((x + w) &&& 31)) &&& (1 : Int32)) = S (13 + 4 * r) := by rw [e]; exact (hf r (by omega)).symm
        rw [e2]
        by_cases h4 : S (13 + 4 * r) = 0
        · rw [if_pos h4, if_pos ((sWh_iff hR hR9).mpr ⟨r, hr, e, h4⟩)]
        · have n2 : ¬ sWh S (x + w) = true := by
            intro h5
            obtain ⟨r', hr', e', h6⟩ := (sWh_iff hR hR9).mp h5
            have := nn_inj (by omega) (by omega) (e.symm.trans e')
            subst this; exact h4 h6
          rw [if_neg h4, if_neg n2]
      · rw [if_neg h2]
        have n1 : ¬ sRg S (x + w) = true := fun h3 => by
          obtain ⟨r, hr, e⟩ := (sRg_iff hR hR9).mp h3
          rw [e, nn_lt (by omega) (by omega)] at h2; exact h2 hr
        have n2 : ¬ sWh S (x + w) = true := fun h2 => n1 (by unfold sWh at h2; simp only [Bool.and_eq_true] at h2; exact h2.1)
        rw [if_neg n2, if_neg (by rw [Bool.and_eq_true]; exact fun h9 => n1 h9.1)]
/-- where one comes to: nowhere, or on a rung that is whole -/
theorem sBes_cases {S : Nat → Int32} {R : Nat} (hR : S 0 = nn R) (hR9 : R < 10) (x w : Int32) : sBes S x w = -1 ∨ ∃ r, r < R ∧ sBes S x w = nn r ∧ S (13 + 4 * r) = 0 := by
  unfold sBes
  by_cases h : x < 0
  · rw [if_pos h]; exact Or.inl rfl
  · rw [if_neg h]
    by_cases h1 : sWh S (x + w) = true
    · rw [if_pos h1]; exact Or.inr ((sWh_iff hR hR9).mp h1)
    · rw [if_neg h1]
      by_cases h2 : (sRg S (x + w) && sWh S (x + w + w)) = true
      · rw [if_pos h2]
        rw [Bool.and_eq_true] at h2
        exact Or.inr ((sWh_iff hR hR9).mp h2.2)
      · rw [if_neg h2]; exact Or.inl rfl
def sRoom (S : Nat → Int32) (P : Nat) (x : Int32) : Bool := decide (nn (crF (gR S) x P) < S (10 + 4 * x.toNatClampNeg))
def sStep (S : Nat → Int32) (P p : Nat) (w : Int32) : Int32 := if sBes S (S (46 + 4 * p)) w = -1 then -1 else if sRoom S P (sBes S (S (46 + 4 * p)) w) then sBes S (S (46 + 4 * p)) w else -1
theorem sRoom_nn {S : Nat → Int32} {P r : Nat} (hr : r < 9) : sRoom S P (nn r) = decide (nn (crF (gR S) (nn r) P) < S (10 + 4 * r)) := by
  unfold sRoom; rw [nn_nat (by omega)]
theorem m_stepTo {S : Nat → Int32} {R P p : Nat} (hR : S 0 = nn R) (hR9 : R < 10) (hP : S 1 = nn P) (hP4 : P < 5) (hp : p < 4) (w : Int32) : f12_stepTo S (nn p) w = some (sStep S P p w) := by
  unfold f12_stepTo sStep
  rw [m_p0 hp]
  simp only [bnd1]
  rw [m_beside hR hR9]
  dsimp only
  rcases sBes_cases hR hR9 (S (46 + 4 * p)) w with e | ⟨r, hr, e, _⟩
  · rw [e, if_pos (by decide), if_pos rfl]
  · rw [e, if_neg (by rw [nn_lt0 (by omega)]; exact id), if_neg (nn_ne_m1 (by omega)), m_standing hP hP4, m_r0 (by omega), sRoom_nn (by omega)]
    dsimp only
    by_cases h : S (10 + 4 * r) ≤ nn (crF (gR S) (nn r) P)
    · rw [if_pos h, if_neg]; rw [decide_eq_true_eq]; exact Int32.not_lt.mpr h
    · rw [if_neg h, if_pos]; rw [decide_eq_true_eq]; exact Int32.not_le.mp h
section
variable {S : Nat → Int32} {R P : Nat} {hour broken rungs people : Int32} {rung grip want slips worn room strength weight told : Nat → Int32}
theorem c_hasRoom (hI : IV0 R P S) (hW : RWd S hour broken rung grip want slips worn) (hL : RLd R P S rungs people room strength weight told) {r : Nat} (hr : r < R) : f10_hasRoom rung people room (nn r) = some (if sRoom S P (nn r) then 1 else 0) := by
  obtain ⟨hR9, hP4, hR, hP, _⟩ := hI
  unfold f10_hasRoom
  rw [hL.2.1, c_crowdOn hP4, crF_congr (g' := gR S) (fun p hp => hW.2.2.1 p (by omega)), sRoom_nn (by omega)]
  simp only [bnd1]
  rw [nn_nat (by omega), if_neg (ng (by omega) (by omega)), hL.2.2.1 r hr]
  by_cases h : S (10 + 4 * r) ≤ nn (crF (gR S) (nn r) P)
  · rw [if_pos h, if_neg]; rw [decide_eq_true_eq]; exact Int32.not_lt.mpr h
  · rw [if_neg h, if_pos]; rw [decide_eq_true_eq]; exact Int32.not_le.mp h
theorem c_stepGoal (hI : IV0 R P S) (hW : RWd S hour broken rung grip want slips worn) (hL : RLd R P S rungs people room strength weight told) {p : Nat} (hp : p < 4) (w : Int32) : f10_stepGoal broken rung rungs people room (nn p) w = some (sStep S P p w) := by
  have hI' := hI
  obtain ⟨hR9, hP4, hR, hP, _⟩ := hI'
  unfold f10_stepGoal sStep
  rw [nn_nat (by omega), if_neg (ng (by omega) (by omega)), hW.2.2.1 p hp, hL.1, c_beside hR hR9 hW.2.1]
  simp only [bnd1]
  rcases sBes_cases hR hR9 (S (46 + 4 * p)) w with e | ⟨r, hr, e, _⟩
  · rw [e, if_pos rfl, if_pos rfl]
  · rw [e, if_neg (nn_ne_m1 (by omega)), if_neg (nn_ne_m1 (by omega)), c_hasRoom hI hW hL hr]
    dsimp only
    cases h : sRoom S P (nn r) <;> simp
end
