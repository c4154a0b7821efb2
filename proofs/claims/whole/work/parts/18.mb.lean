/-! numbers: nn k is the int k; loops by a count; the rows of the reference by name -/
def nn (k : Nat) : Int32 := Int32.ofNat k
theorem nn_add (a b : Nat) : nn a + nn b = nn (a + b) := (Int32.ofNat_add a b).symm
theorem nn_mul (a b : Nat) : nn a * nn b = nn (a * b) := (Int32.ofNat_mul a b).symm
theorem nn_sub {a b : Nat} (h : b ≤ a) : nn a - nn b = nn (a - b) := (Int32.ofNat_sub a b h).symm
theorem nn_le {a b : Nat} (ha : a < 2147483648) (hb : b < 2147483648) : (nn a ≤ nn b) = (a ≤ b) := propext (Int32.ofNat_le_iff_le ha hb)
theorem nn_lt {a b : Nat} (ha : a < 2147483648) (hb : b < 2147483648) : (nn a < nn b) = (a < b) := propext (Int32.ofNat_lt_iff_lt ha hb)
theorem nn_nat {a : Nat} (ha : a < 2147483648) : Int32.toNatClampNeg (nn a) = a := Int32.toNatClampNeg_ofNat_of_lt ha
theorem nn_int {a : Nat} (ha : a < 2147483648) : Int32.toInt (nn a) = a := Int32.toInt_ofNat_of_lt ha
theorem nn_inj {a b : Nat} (ha : a < 2147483648) (hb : b < 2147483648) (h : nn a = nn b) : a = b := by
  have := congrArg Int32.toNatClampNeg h
  rwa [nn_nat ha, nn_nat hb] at this
theorem nn_eq {a b : Nat} (ha : a < 2147483648) (hb : b < 2147483648) : (nn a = nn b) = (a = b) := propext ⟨nn_inj ha hb, fun h => by rw [h]⟩
theorem nn_ne_m1 {a : Nat} (ha : a < 2147483648) : nn a ≠ (-1 : Int32) := by
  intro h
  have := congrArg Int32.toInt h
  rw [nn_int ha] at this
  have h2 : Int32.toInt (-1 : Int32) = -1 := by decide
  omega
theorem nn_m1 {a : Nat} (ha : a < 2147483648) : (nn a = (-1 : Int32)) = False := eq_false (nn_ne_m1 ha)
theorem nn_m1' {a : Nat} (ha : a < 2147483648) : ((-1 : Int32) = nn a) = False := eq_false (fun h => nn_ne_m1 ha h.symm)
theorem nn_lt0 {a : Nat} (ha : a < 2147483648) : (nn a < (0 : Int32)) = False := by
  have h : (0 : Int32) = nn 0 := rfl
  rw [h, nn_lt ha (by decide)]; simp
theorem nn_0le {a : Nat} (ha : a < 2147483648) : ((0 : Int32) ≤ nn a) = True := by
  have h : (0 : Int32) = nn 0 := rfl
  rw [h, nn_le (by decide) ha]; simp
theorem nn_m1lt {a : Nat} (ha : a < 2147483648) : ((-1 : Int32) < nn a) = True := by
  refine eq_true ?_
  rw [Int32.lt_iff_toInt_lt, nn_int ha]
  have h2 : Int32.toInt (-1 : Int32) = -1 := by decide
  omega
theorem nn_lem1 {a : Nat} (ha : a < 2147483648) : (nn a ≤ (-1 : Int32)) = False := by
  refine eq_false ?_
  rw [Int32.le_iff_toInt_le, nn_int ha]
  have h2 : Int32.toInt (-1 : Int32) = -1 := by decide
  omega
theorem nn_succ (a : Nat) : nn a + (1 : Int32) = nn (a + 1) := nn_add a 1
theorem nn_pred (a : Nat) : nn (a + 1) + (-1 : Int32) = nn a := by
  have h : nn (a + 1) = nn a + 1 := (nn_succ a).symm
  rw [h, Int32.add_assoc]
  have : (1 : Int32) + (-1 : Int32) = 0 := by decide
  rw [this, Int32.add_zero]
theorem nn_pred' (a : Nat) : nn (a + 1) - (1 : Int32) = nn a := nn_sub (a := a + 1) (b := 1) (by omega)
theorem nn_zero_pred : nn 0 - (1 : Int32) = -1 := by decide
theorem nn_zero_pred' : nn 0 + (-1 : Int32) = -1 := by decide
theorem ng {a n : Nat} (ha : a < 2147483648) (h : a < n) : ¬ (nn a < 0 ∨ n ≤ a) := by
  rw [nn_lt0 ha]
  rintro (h' | h')
  · exact h'
  · omega
/-- a number that isn't below 0 -/
theorem nn_of {x : Int32} (h : 0 ≤ x) : ∃ k : Nat, k < 2147483648 ∧ x = nn k := ⟨x.toNatClampNeg, x.toNatClampNeg_lt, (Int32.ofNat_toNatClampNeg x h).symm⟩
theorem nn_of' {x : Int32} (h : ¬ x < 0) : ∃ k : Nat, k < 2147483648 ∧ x = nn k := nn_of (Int32.not_lt.mp h)
theorem nn_of_lt {x : Int32} {n : Nat} (h : ¬ x < 0) (hn : n < 2147483648) (h2 : x < nn n) : ∃ k : Nat, k < n ∧ x = nn k := by
  obtain ⟨k, hk, rfl⟩ := nn_of' h
  rw [nn_lt hk hn] at h2
  exact ⟨k, h2, rfl⟩
theorem k0 : (0 : Int32) = nn 0 := rfl
theorem k1 : (1 : Int32) = nn 1 := rfl
theorem k2 : (2 : Int32) = nn 2 := rfl
theorem k3 : (3 : Int32) = nn 3 := rfl
theorem k4 : (4 : Int32) = nn 4 := rfl
theorem k10 : (10 : Int32) = nn 10 := rfl
theorem k46 : (46 : Int32) = nn 46 := rfl
theorem k62 : (62 : Int32) = nn 62 := rfl
theorem k70 : (70 : Int32) = nn 70 := rfl
theorem k79 : (79 : Int32) = nn 79 := rfl
section
variable {S T E F : Type}
theorem iter_for_aux (B : S → Option (S ⊕ E)) (st : Nat → S) (n : Nat) (out : E) (hs : ∀ k, k < n → B (st k) = some (.inl (st (k + 1)))) (he : B (st n) = some (.inr out)) : ∀ (d k fuel : Nat), k + d = n → d < fuel → iter B fuel (st k) = some out := by
  intro d
  induction d with
  | zero =>
    intro k fuel hk hf
    obtain ⟨f, rfl⟩ : ∃ f, fuel = f + 1 := ⟨fuel - 1, by omega⟩
    have hk : k = n := by omega
    subst hk
    unfold iter; rw [he]
  | succ d ih =>
    intro k fuel hk hf
    obtain ⟨f, rfl⟩ : ∃ f, fuel = f + 1 := ⟨fuel - 1, by omega⟩
    unfold iter; rw [hs k (by omega)]
    exact ih (k + 1) f (by omega) (by omega)
/-- a loop that goes n times -/
theorem iter_for {B : S → Option (S ⊕ E)} {s : S} {st : Nat → S} {n : Nat} {out : E} (h0 : st 0 = s) (hn : n < 1000000) (hs : ∀ k, k < n → B (st k) = some (.inl (st (k + 1)))) (he : B (st n) = some (.inr out)) : iter B FUEL s = some out := h0 ▸
  iter_for_aux B st n out hs he n 0 FUEL (by omega) hn
/-- a loop with a measure -/
theorem iter_wf {B : S → Option (S ⊕ E)} {I : Nat → S → Prop} {Po : E → Prop} (h : ∀ n s, I n s → (∃ s' m, B s = some (.inl s') ∧ m < n ∧ I m s') ∨ (∃ a, B s = some (.inr a) ∧ Po a)) : ∀ fuel n s, I n s → n < fuel → ∃ a, iter B fuel s = some a ∧ Po a := by
  intro fuel
  induction fuel with
  | zero => intro n s _ hf; omega
  | succ f ih =>
    intro n s hI hf
    unfold iter
    rcases h n s hI with ⟨s', m, e, hm, hI'⟩ | ⟨a, e, ha⟩
    · rw [e]; exact ih m s' hI' (by omega)
    · rw [e]; exact ⟨a, rfl, ha⟩
theorem iter_wfF {B : S → Option (S ⊕ E)} {I : Nat → S → Prop} {Po : E → Prop} {n : Nat} {s : S} (hI : I n s) (hn : n < 1000000) (h : ∀ n s, I n s → (∃ s' m, B s = some (.inl s') ∧ m < n ∧ I m s') ∨ (∃ a, B s = some (.inr a) ∧ Po a)) : ∃ a, iter B FUEL s = some a ∧ Po a :=
  iter_wf h FUEL n s hI hn
/-- two loops side by side -/
theorem iter_two {B : S → Option (S ⊕ E)} {C : T → Option (T ⊕ F)} {I : Nat → S → T → Prop} {Po : E → F → Prop} (h : ∀ n s t, I n s t → (∃ s' t' m, B s = some (.inl s') ∧ C t = some (.inl t') ∧ m < n ∧ I m s' t') ∨ (∃ a b, B s = some (.inr a) ∧ C t = some (.inr b) ∧ Po a b)) : ∀ fuel n s t, I n s t → n < fuel → ∃ a b, iter B fuel s = some a ∧ iter C fuel t = some b ∧ Po a b := by
  intro fuel
  induction fuel with
  | zero => intro n s t _ hf; omega
  | succ f ih =>
    intro n s t hI hf
    unfold iter
    rcases h n s t hI with ⟨s', t', m, e1, e2, hm, hI'⟩ | ⟨a, b, e1, e2, ha⟩
    · rw [e1, e2]; exact ih m s' t' hI' (by omega)
    · rw [e1, e2]; exact ⟨a, b, rfl, rfl, ha⟩
theorem iter_twoF {B : S → Option (S ⊕ E)} {C : T → Option (T ⊕ F)} {I : Nat → S → T → Prop} {Po : E → F → Prop} {n : Nat} {s : S} {t : T} (hI : I n s t) (hn : n < 1000000) (h : ∀ n s t, I n s t → (∃ s' t' m, B s = some (.inl s') ∧ C t = some (.inl t') ∧ m < n ∧ I m s' t') ∨ (∃ a b, B s = some (.inr a) ∧ C t = some (.inr b) ∧ Po a b)) : ∃ a b, iter B FUEL s = some a ∧ iter C FUEL t = some b ∧ Po a b :=
  iter_two h FUEL n s t hI hn
end
/-- the places of the reference's row of numbers -/
theorem ix_p {p w : Nat} (hp : p < 4) (hw : w < 4) : Int32.toNatClampNeg (((46 : Int32) + ((4 : Int32) * nn p)) + nn w) = 46 + 4 * p + w ∧ ¬ (((46 : Int32) + ((4 : Int32) * nn p)) + nn w) < 0 := by
  rw [k46, k4, nn_mul, nn_add, nn_add, nn_nat (by omega), nn_lt0 (by omega)]; exact ⟨rfl, id⟩
theorem ix_r {r w : Nat} (hp : r < 9) (hw : w < 4) : Int32.toNatClampNeg (((10 : Int32) + ((4 : Int32) * nn r)) + nn w) = 10 + 4 * r + w ∧ ¬ (((10 : Int32) + ((4 : Int32) * nn r)) + nn w) < 0 := by
  rw [k10, k4, nn_mul, nn_add, nn_add, nn_nat (by omega), nn_lt0 (by omega)]; exact ⟨rfl, id⟩
theorem m_personOf {S : Nat → Int32} {p w : Nat} (hp : p < 4) (hw : w < 4) : f12_personOf S (nn p) (nn w) = some (S (46 + 4 * p + w)) := by
  unfold f12_personOf
  rw [if_neg (by rw [(ix_p hp hw).1]; rintro (h | h); exact (ix_p hp hw).2 h; omega), (ix_p hp hw).1]; rfl
theorem m_rungOf {S : Nat → Int32} {r w : Nat} (hr : r < 9) (hw : w < 4) : f12_rungOf S (nn r) (nn w) = some (S (10 + 4 * r + w)) := by
  unfold f12_rungOf
  rw [if_neg (by rw [(ix_r hr hw).1]; rintro (h | h); exact (ix_r hr hw).2 h; omega), (ix_r hr hw).1]; rfl
theorem m_p0 {S : Nat → Int32} {p : Nat} (hp : p < 4) : f12_personOf S (nn p) (0 : Int32) = some (S (46 + 4 * p)) := m_personOf (w := 0) hp (by decide)
theorem m_p1 {S : Nat → Int32} {p : Nat} (hp : p < 4) : f12_personOf S (nn p) (1 : Int32) = some (S (47 + 4 * p)) := by rw [k1, m_personOf hp (by decide)]; congr 2; omega
theorem m_p2 {S : Nat → Int32} {p : Nat} (hp : p < 4) : f12_personOf S (nn p) (2 : Int32) = some (S (48 + 4 * p)) := by rw [k2, m_personOf hp (by decide)]; congr 2; omega
theorem m_p3 {S : Nat → Int32} {p : Nat} (hp : p < 4) : f12_personOf S (nn p) (3 : Int32) = some (S (49 + 4 * p)) := by rw [k3, m_personOf hp (by decide)]; congr 2; omega
theorem m_r0 {S : Nat → Int32} {r : Nat} (hr : r < 9) : f12_rungOf S (nn r) (0 : Int32) = some (S (10 + 4 * r)) := m_rungOf (w := 0) hr (by decide)
theorem m_r1 {S : Nat → Int32} {r : Nat} (hr : r < 9) : f12_rungOf S (nn r) (1 : Int32) = some (S (11 + 4 * r)) := by rw [k1, m_rungOf hr (by decide)]; congr 2; omega
theorem m_r2 {S : Nat → Int32} {r : Nat} (hr : r < 9) : f12_rungOf S (nn r) (2 : Int32) = some (S (12 + 4 * r)) := by rw [k2, m_rungOf hr (by decide)]; congr 2; omega
theorem m_r3 {S : Nat → Int32} {r : Nat} (hr : r < 9) : f12_rungOf S (nn r) (3 : Int32) = some (S (13 + 4 * r)) := by rw [k3, m_rungOf hr (by decide)]; congr 2; omega
theorem m_weightOf {S : Nat → Int32} {p : Nat} (hp : p < 4) : f12_weightOf S (nn p) = some (S (62 + 2 * p)) := by
  unfold f12_weightOf
  rw [k62, k2, nn_mul, nn_add, nn_nat (by omega), if_neg (ng (by omega) (by omega))]; rfl
theorem m_gripTold {S : Nat → Int32} {p : Nat} (hp : p < 4) : f12_gripTold S (nn p) = some (S (63 + 2 * p)) := by
  unfold f12_gripTold
  rw [k62, k2, k1, nn_mul, nn_add, nn_add, nn_nat (by omega), if_neg (ng (by omega) (by omega))]
  have : 62 + 2 * p + 1 = 63 + 2 * p := by omega
  rw [this]; rfl
/-! the closed rows: who is what -/
theorem m_isRung {S : Nat → Int32} {R : Nat} (hR : S 0 = nn R) (hR9 : R < 10) (x : Int32) : f12_isRung S x = some (if (0 ≤ x ∧ x < nn R) then 1 else 0) := by
  unfold f12_isRung
  rw [hR]
  by_cases h : x < 0
  · rw [if_pos h, if_neg (fun hh => (Int32.not_lt.mpr hh.1) h)]
  · rw [if_neg h]
    by_cases h2 : nn R ≤ x
    · rw [if_pos h2, if_neg (fun hh => (Int32.not_lt.mpr h2) hh.2)]
    · rw [if_neg h2, if_pos ⟨Int32.not_lt.mp h, Int32.not_le.mp h2⟩]
theorem m_isPerson {S : Nat → Int32} (x : Int32) : f12_isPerson S x = some (if (0 ≤ x ∧ x < S 1) then 1 else 0) := by
  unfold f12_isPerson
  by_cases h : x < 0
  · rw [if_pos h, if_neg (fun hh => (Int32.not_lt.mpr hh.1) h)]
  · rw [if_neg h]
    by_cases h2 : S 1 ≤ x
    · rw [if_pos h2, if_neg (fun hh => (Int32.not_lt.mpr h2) hh.2)]
    · rw [if_neg h2, if_pos ⟨Int32.not_lt.mp h, Int32.not_le.mp h2⟩]
theorem m_isUp {S : Nat → Int32} {p : Nat} (hp : p < 4) : f12_isUp S (nn p) = some (if S (46 + 4 * p) < 0 then 0 else 1) := by
  unfold f12_isUp
  rw [m_p0 hp]; unfold bnd1; dsimp only
  split <;> rfl
/-- the people's rungs, grips, wants, slips, weights; the rungs' numbers -/
def gR (S : Nat → Int32) (p : Nat) : Int32 := S (46 + 4 * p)
def gW (S : Nat → Int32) (p : Nat) : Int32 := S (62 + 2 * p)
def crF (g : Nat → Int32) (x : Int32) : Nat → Nat
  | 0 => 0
  | k + 1 => crF g x k + if g k = x then 1 else 0
def wtF (g w : Nat → Int32) (x : Int32) : Nat → Int32
  | 0 => 0
  | k + 1 => wtF g w x k + if g k = x then w k else 0
def whF (g : Nat → Int32) (x : Int32) : Nat → Int32
  | 0 => 0
  | k + 1 => whF g x k ||| if g k = x then (1 : Int32) <<< (nn k &&& 31) else 0
def lfF (g : Nat → Int32) : Nat → Int32
  | 0 => 0
  | k + 1 => lfF g k ||| if g k < 0 then 0 else (1 : Int32) <<< (nn k &&& 31)
def smF (g : Nat → Int32) : Nat → Int32
  | 0 => 0
  | k + 1 => smF g k + g k
theorem crF_le (g : Nat → Int32) (x : Int32) : ∀ k, crF g x k ≤ k
  | 0 => Nat.le_refl 0
  | k + 1 => by have := crF_le g x k; simp only [crF]; split <;> omega
theorem crF_congr {g g' : Nat → Int32} {x : Int32} : ∀ {k : Nat}, (∀ p, p < k → g p = g' p) → crF g x k = crF g' x k
  | 0, _ => rfl
  | k + 1, h => by simp only [crF]; rw [crF_congr (fun p hp => h p (by omega)), h k (by omega)]
theorem wtF_congr {g g' w w' : Nat → Int32} {x : Int32} : ∀ {k : Nat}, (∀ p, p < k → g p = g' p) → (∀ p, p < k → w p = w' p) → wtF g w x k = wtF g' w' x k
  | 0, _, _ => rfl
  | k + 1, h, h2 => by simp only [wtF]; rw [wtF_congr (fun p hp => h p (by omega)) (fun p hp => h2 p (by omega)), h k (by omega), h2 k (by omega)]
theorem whF_congr {g g' : Nat → Int32} {x : Int32} : ∀ {k : Nat}, (∀ p, p < k → g p = g' p) → whF g x k = whF g' x k
  | 0, _ => rfl
  | k + 1, h => by simp only [whF]; rw [whF_congr (fun p hp => h p (by omega)), h k (by omega)]
theorem lfF_congr {g g' : Nat → Int32} : ∀ {k : Nat}, (∀ p, p < k → g p = g' p) → lfF g k = lfF g' k
  | 0, _ => rfl
  | k + 1, h => by simp only [lfF]; rw [lfF_congr (fun p hp => h p (by omega)), h k (by omega)]
theorem smF_congr {g g' : Nat → Int32} : ∀ {k : Nat}, (∀ p, p < k → g p = g' p) → smF g k = smF g' k
  | 0, _ => rfl
  | k + 1, h => by simp only [smF]; rw [smF_congr (fun p hp => h p (by omega)), h k (by omega)]
theorem m_p0g {S : Nat → Int32} {p : Nat} (hp : p < 4) : f12_personOf S (nn p) (0 : Int32) = some (gR S p) := m_p0 hp
theorem m_wg {S : Nat → Int32} {p : Nat} (hp : p < 4) : f12_weightOf S (nn p) = some (gW S p) := m_weightOf hp
theorem m_standing {S : Nat → Int32} {P : Nat} (hP : S 1 = nn P) (hP4 : P < 5) (x : Int32) : f12_standing S x = some (nn (crF (gR S) x P)) := by
  unfold f12_standing
  rw [iter_for (s := ((0 : Int32), (0 : Int32))) (st := fun k => (nn (crF (gR S) x k), nn k)) (n := P) (out := nn (crF (gR S) x P)) rfl (by omega) ?hs ?he]
  · rfl
  case hs =>
    intro k hk
    unfold f12_standing_B4
    dsimp only
    rw [hP, if_neg (by rw [nn_le (by omega) (by omega)]; omega), m_p0g (by omega)]
    simp only [bnd1, f12_standing_J30, lt, crF, nn_succ]
    by_cases h : gR S k = x
    · rw [if_pos h, if_pos h]
    · rw [if_neg h, if_neg h, Int32.add_zero]; rfl
  case he =>
    unfold f12_standing_B4
    dsimp only
    rw [hP, if_pos (Int32.le_refl _)]
theorem m_whoStands {S : Nat → Int32} {P : Nat} (hP : S 1 = nn P) (hP4 : P < 5) (x : Int32) : f12_whoStands S x = some (whF (gR S) x P) := by
  unfold f12_whoStands
  rw [iter_for (s := ((0 : Int32), (0 : Int32))) (st := fun k => (whF (gR S) x k, nn k)) (n := P) (out := whF (gR S) x P) rfl (by omega) ?hs ?he]
  · rfl
  case hs =>
    intro k hk
    unfold f12_whoStands_B4
    dsimp only
    rw [hP, if_neg (by rw [nn_le (by omega) (by omega)]; omega), m_p0g (by omega)]
    simp only [bnd1, f12_whoStands_J32, lt, whF, nn_succ]
    by_cases h : gR S k = x
    · rw [if_pos h, if_pos h]
    · rw [if_neg h, if_neg h]
  case he =>
    unfold f12_whoStands_B4
    dsimp only
    rw [hP, if_pos (Int32.le_refl _)]
theorem m_weightOn {S : Nat → Int32} {P : Nat} (hP : S 1 = nn P) (hP4 : P < 5) (x : Int32) : f12_weightOn S x = some (wtF (gR S) (gW S) x P) := by
  unfold f12_weightOn
  rw [iter_for (s := ((0 : Int32), (0 : Int32))) (st := fun k => (wtF (gR S) (gW S) x k, nn k)) (n := P) (out := wtF (gR S) (gW S) x P) rfl (by omega) ?hs ?he]
  · rfl
  case hs =>
    intro k hk
    unfold f12_weightOn_B4
    dsimp only
    rw [hP, if_neg (by rw [nn_le (by omega) (by omega)]; omega), m_p0g (by omega), m_wg (by omega)]
    simp only [bnd1, f12_weightOn_J34, lt, wtF, nn_succ]
    by_cases h : gR S k = x
    · rw [if_pos h, if_pos h]
    · rw [if_neg h, if_neg h]
  case he =>
    unfold f12_weightOn_B4
    dsimp only
    rw [hP, if_pos (Int32.le_refl _)]
/-! the class's rows likewise -/
theorem c_crowdOn {g : Nat → Int32} {P : Nat} (hP4 : P < 5) (x : Int32) : f10_crowdOn g (nn P) x = some (nn (crF g x P)) := by
  unfold f10_crowdOn
  rw [iter_for (s := ((0 : Int32), (0 : Int32))) (st := fun k => (nn (crF g x k), nn k)) (n := P) (out := nn (crF g x P)) rfl (by omega) ?hs ?he]
  · rfl
  case hs =>
    intro k hk
    unfold f10_crowdOn_B4
    dsimp only
    rw [if_neg (by rw [nn_le (by omega) (by omega)]; omega), nn_nat (by omega), if_neg (ng (by omega) (by omega))]
    simp only [lt, crF, nn_succ]
    by_cases h : g k = x
    · rw [if_pos h, if_pos h]
    · rw [if_neg h, if_neg h]; rfl
  case he =>
    unfold f10_crowdOn_B4
    dsimp only
    rw [if_pos (Int32.le_refl _)]
theorem c_whoIsOn {g : Nat → Int32} {P : Nat} (hP4 : P < 5) (x : Int32) : f10_whoIsOn g (nn P) x = some (whF g x P) := by
  unfold f10_whoIsOn
  rw [iter_for (s := ((0 : Int32), (0 : Int32))) (st := fun k => (whF g x k, nn k)) (n := P) (out := whF g x P) rfl (by omega) ?hs ?he]
  · rfl
  case hs =>
    intro k hk
    unfold f10_whoIsOn_B4
    dsimp only
    rw [if_neg (by rw [nn_le (by omega) (by omega)]; omega), nn_nat (by omega), if_neg (ng (by omega) (by omega))]
    simp only [lt, whF, nn_succ]
    by_cases h : g k = x
    · rw [if_pos h, if_pos h]
    · rw [if_neg h, if_neg h, Int32.or_zero]
  case he =>
    unfold f10_whoIsOn_B4
    dsimp only
    rw [if_pos (Int32.le_refl _)]
theorem c_weightOn {g w : Nat → Int32} {P : Nat} (hP4 : P < 5) (x : Int32) : f10_weightOn g (nn P) w x = some (wtF g w x P) := by
  unfold f10_weightOn
  rw [iter_for (s := ((0 : Int32), (0 : Int32))) (st := fun k => (wtF g w x k, nn k)) (n := P) (out := wtF g w x P) rfl (by omega) ?hs ?he]
  · rfl
  case hs =>
    intro k hk
    unfold f10_weightOn_B4
    dsimp only
    rw [if_neg (by rw [nn_le (by omega) (by omega)]; omega), nn_nat (by omega), if_neg (ng (by omega) (by omega))]
    simp only [lt, wtF, nn_succ]
    by_cases h : g k = x
    · rw [if_pos h, if_pos h, if_neg (ng (by omega) (by omega))]
    · rw [if_neg h, if_neg h, Int32.add_zero]
  case he =>
    unfold f10_weightOn_B4
    dsimp only
    rw [if_pos (Int32.le_refl _)]
theorem c_hasFallen {g : Nat → Int32} {p : Nat} (hp : p < 4) : f10_hasFallen g (nn p) = some (if g p = -1 then 1 else 0) := by
  unfold f10_hasFallen
  rw [nn_nat (by omega), if_neg (ng (by omega) (by omega))]
  split <;> rfl
theorem c_whoIsLeft {g : Nat → Int32} {P : Nat} (hP4 : P < 5) (hg : ∀ p, p < P → (g p = -1 ↔ g p < 0)) : f10_whoIsLeft g (nn P) = some (lfF g P) := by
  unfold f10_whoIsLeft
  rw [iter_for (s := ((0 : Int32), (0 : Int32))) (st := fun k => (lfF g k, nn k)) (n := P) (out := lfF g P) rfl (by omega) ?hs ?he]
  · rfl
  case hs =>
    intro k hk
    unfold f10_whoIsLeft_B4
    dsimp only
    rw [if_neg (by rw [nn_le (by omega) (by omega)]; omega), c_hasFallen (by omega)]
    simp only [bnd1, lt, lfF, nn_succ]
    by_cases h : g k < 0
    · rw [if_pos h, if_pos ((hg k hk).mpr h), Int32.or_zero, if_neg (by decide)]
    · rw [if_neg h, if_neg (fun h9 => h ((hg k hk).mp h9)), if_pos rfl]
  case he =>
    unfold f10_whoIsLeft_B4
    dsimp only
    rw [if_pos (Int32.le_refl _)]
theorem c_allSlips {g : Nat → Int32} {P : Nat} (hP4 : P < 5) : f10_allSlips g (nn P) = some (smF g P) := by
  unfold f10_allSlips
  rw [iter_for (s := ((0 : Int32), (0 : Int32))) (st := fun k => (smF g k, nn k)) (n := P) (out := smF g P) rfl (by omega) ?hs ?he]
  · rfl
  case hs =>
    intro k hk
    unfold f10_allSlips_B4
    dsimp only
    rw [if_neg (by rw [nn_le (by omega) (by omega)]; omega), nn_nat (by omega), if_neg (ng (by omega) (by omega))]
    simp only [lt, smF, nn_succ]
  case he =>
    unfold f10_allSlips_B4
    dsimp only
    rw [if_pos (Int32.le_refl _)]
theorem c_allWorn {g : Nat → Int32} {R : Nat} (hR : R < 10) : f10_allWorn g (nn R) = some (smF g R) := by
  unfold f10_allWorn
  rw [iter_for (s := ((0 : Int32), (0 : Int32))) (st := fun k => (smF g k, nn k)) (n := R) (out := smF g R) rfl (by omega) ?hs ?he]
  · rfl
  case hs =>
    intro k hk
    unfold f10_allWorn_B4
    dsimp only
    rw [if_neg (by rw [nn_le (by omega) (by omega)]; omega), nn_nat (by omega), if_neg (ng (by omega) (by omega))]
    simp only [lt, smF, nn_succ]
  case he =>
    unfold f10_allWorn_B4
    dsimp only
    rw [if_pos (Int32.le_refl _)]
