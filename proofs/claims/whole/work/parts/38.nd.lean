/-! the ballot -/
section
variable {S : Nat → Int32} {R P : Nat} {hour broken rungs people : Int32} {rung grip want slips worn room strength weight told : Nat → Int32}
theorem upd_back {f : Nat → Int32} {i : Nat} {x : Int32} : upd (upd f i x) i (f i) = f := by
  funext j
  by_cases h : j = i
  · subst h; rw [upd_at]
  · rw [upd_ne h, upd_ne h]
theorem gR_upd {p : Nat} {x : Int32} : gR (upd S (46 + 4 * p) x) = upd (gR S) p x := by
  funext q
  by_cases h : q = p
  · subst h; rw [upd_at]; exact upd_at
  · rw [upd_ne h]; exact upd_ne (by omega)
theorem sStep_cases (hR : S 0 = nn R) (hR9 : R < 10) (P p : Nat) (w : Int32) : sStep S P p w = -1 ∨ ∃ r, r < R ∧ sStep S P p w = nn r ∧ S (13 + 4 * r) = 0 := by
  unfold sStep
  by_cases h : sBes S (S (46 + 4 * p)) w = -1
  · rw [if_pos h]; exact Or.inl rfl
  · rw [if_neg h]
    by_cases h2 : sRoom S P (sBes S (S (46 + 4 * p)) w) = true
    · rw [if_pos h2]
      exact sBes_cases hR hR9 _ _
    · rw [if_neg h2]; exact Or.inl rfl
theorem crF_pos {g : Nat → Int32} {x : Int32} : ∀ {k p : Nat}, p < k → g p = x → 0 < crF g x k
  | k + 1, p, hp, e => by
    unfold crF
    by_cases h : p = k
    · subst h; rw [if_pos e]; omega
    · have := crF_pos (g := g) (x := x) (k := k) (p := p) (by omega) e
      omega
theorem capF_ge (g : Nat → Int32) (P : Nat) {r : Nat} : ∀ {k : Nat}, r < k → crF g (nn r) P ≤ (capF g P k).2
  | k + 1, hr => by
    simp only [capF]
    by_cases h : r = k
    · subst h
      by_cases h2 : (capF g P r).2 < crF g (nn r) P
      · rw [if_pos h2]; exact Nat.le_refl _
      · rw [if_neg h2]; omega
    · have := capF_ge g P (r := r) (k := k) (by omega)
      by_cases h2 : (capF g P k).2 < crF g (nn k) P
      · rw [if_pos h2]; dsimp only; omega
      · rw [if_neg h2]; exact this
theorem capF_on {g : Nat → Int32} {p r : Nat} (hp : p < P) (hr : r < R) (e : g p = nn r) : ∃ c, c < R ∧ (capF g P R).1 = nn c := by
  have h1 := capF_ge g P hr
  have h2 := crF_pos (x := nn r) hp e
  rcases (capF_le g P R).2 with ⟨-, h⟩ | ⟨c, hc, e2, -⟩
  · omega
  · exact ⟨c, hc, e2⟩
/-- the bit of the capital -/
def capB (g : Nat → Int32) (P R : Nat) : Int32 := if (capF g P R).1 = -1 then 0 else (1 : Int32) <<< ((capF g P R).1 &&& 31)
def balB (S : Nat → Int32) (R P p : Nat) (w : Int32) : Int32 := if sStep S P p w = -1 then 0 else capB (upd (gR S) p (sStep S P p w)) P R
def sWy (e : Nat) : Int32 := if e % 2 = 0 then 1 else -1
def balC (S : Nat → Int32) (R P : Nat) : Nat → Int32
  | 0 => capB (gR S) P R
  | k + 1 => balC S R P k ||| balB S R P (k / 2) (sWy k)
theorem c_capitalBit {g : Nat → Int32} (hR9 : R < 10) (hP4 : P < 5) : f7_capitalBit g (nn R) (nn P) = some (capB g P R) := by
  unfold f7_capitalBit capB
  rw [c_fullest hR9 hP4, bnd1_s]
  by_cases h : (capF g P R).1 = -1
  · rw [if_pos h, if_pos h]
  · rw [if_neg h, if_neg h, lt_df]
theorem hv8 : ∀ s, s < 8 → nn s / 2 = nn (s / 2) ∧ (nn s - nn s / 2 * 2 = 0 ↔ s % 2 = 0) := by decide +kernel
theorem c_goalOf (hI : IV0 R P S) (hW : RWd S hour broken rung grip want slips worn) (hL : RLd R P S rungs people room strength weight told) {s : Nat} (hs : s < 8) : f7_goalOf broken rung rungs people room (nn s) = some (sStep S P (s / 2) (sWy s)) := by
  obtain ⟨e1, e2⟩ := hv8 s hs
  unfold f7_goalOf f7_goalOf_J18 sWy
  rw [e1]
  rw [e1] at e2
  by_cases h : s % 2 = 0
  · rw [if_pos (e2.mpr h), if_pos h, c_stepGoal hI hW hL (by omega), bnd1_s]
  · rw [if_neg (fun h2 => h (e2.mp h2)), if_neg h, c_stepGoal hI hW hL (by omega), bnd1_s]
theorem c_possible {th tb hour' : Int32} {tr tg tw ts tk : Nat → Int32} (hI : IV R P S) (hW : RWd S hour broken rung grip want slips worn) (hL : RLd R P S rungs people room strength weight told) : ∃ tr1, f7_possibleCapitals th tb tr tg tw ts tk hour broken rung grip want slips worn rungs people room = some (balC S R P (2 * P), hour, broken, tr1, va_cpy grip tg 0 0 4, va_cpy want tw 0 0 4, va_cpy slips ts 0 0 4, va_cpy worn tk 0 0 9) := by
  have hR9 := hI.1.1
  have hP4 := hI.1.2.1
  have hW2 := hW.copy (r0 := tr) (g0 := tg) (w0 := tw) (s0 := ts) (k0 := tk)
  refine ⟨va_cpy rung tr 0 0 4, ?_⟩
  unfold f7_possibleCapitals
  rw [c_copyFrom]
  generalize va_cpy rung tr 0 0 4 = tr2 at hW2 ⊢
  have hcb : f7_capitalBit tr2 rungs people = some (capB (gR S) P R) := by
    rw [hL.1, hL.2.1, c_capitalBit hR9 hP4]
    unfold capB
    rw [capF_congr (g' := gR S) (fun p hp => hW2.2.2.1 p (by omega))]
  rw [bnd7_s, hcb, bnd1_s]
  rw [iter_for (s := (tr2, capB (gR S) P R, (0 : Int32))) (st := fun k => (tr2, balC S R P k, nn k)) (n := 2 * P) (out := (tr2, balC S R P (2 * P))) rfl (by omega) ?hs ?he]
  · rfl
  case hs =>
    intro k hk
    have hk8 : k < 8 := by omega
    have hp : k / 2 < P := by omega
    unfold f7_possibleCapitals_B15
    dsimp only
    have h2P : (2 : Int32) * people = nn (2 * P) := by rw [hL.2.1]; exact nn_mul 2 P
    rw [h2P, if_neg (nle (by omega) (by omega) (by omega)), (hv8 k hk8).1, lt_df, nn_nat (by omega), if_neg (ng (by omega) (by omega)), lt_df, c_goalOf hI.1 hW2 hL hk8, bnd1_s]
    simp only [lt_df, nn_succ, balC]
    by_cases h : sStep S P (k / 2) (sWy k) = -1
    · rw [if_pos h]
      unfold balB
      rw [if_pos h, Int32.or_zero]
    · rw [if_neg h, if_neg (ng (by omega) (by omega)), upd_back]
      have : f7_capitalBit (upd tr2 (k / 2) (sStep S P (k / 2) (sWy k))) rungs people = some (balB S R P (k / 2) (sWy k)) := by
        rw [hL.1, hL.2.1, c_capitalBit hR9 hP4]
        unfold balB
        rw [if_neg h]
        unfold capB
        rw [capF_congr (g' := upd (gR S) (k / 2) (sStep S P (k / 2) (sWy k))) (fun p hp => ?_)]
        by_cases e : p = k / 2
        · rw [e, upd_at, upd_at]
        · rw [upd_ne e, upd_ne e]; exact hW2.2.2.1 p (by omega)
      rw [this, bnd1_s, if_neg (ng (by omega) (by omega))]
  case he =>
    unfold f7_possibleCapitals_B15
    dsimp only
    have h2P : (2 : Int32) * people = nn (2 * P) := by rw [hL.2.1]; exact nn_mul 2 P
    rw [h2P, if_pos (Int32.le_refl _)]
theorem m_ballot41 {p : Nat} (hI : IV R P S) (hp : p < P) (v : Int32) : iter (fun (z : (Nat → Int32) × Int32 × Int32) => f12_ballot_B41 (nn p) z.1 z.2.1 z.2.2) FUEL (S, v, (-1 : Int32)) = some (S, (v ||| balB S R P p (-1)) ||| balB S R P p 1) := by
  have hR9 := hI.1.1
  have hP4 := hI.1.2.1
  have hp4 : p < 4 := by omega
  have hone : ∀ (v w : Int32), (w = -1 ∨ w = 1) → f12_ballot_B41 (nn p) S v w = some (.inl (S, v ||| balB S R P p w, w + 2)) := by
    intro v w hw
    have hw2 : ¬ (2 : Int32) ≤ w := by rcases hw with rfl | rfl <;> decide
    unfold f12_ballot_B41
    rw [if_neg hw2, m_p0 hp4, bnd1_s, m_stepTo hI.1.2.2.1 hR9 hI.1.2.2.2.1 hP4 hp4, bnd1_s]
    unfold balB
    rcases sStep_cases hI.1.2.2.1 hR9 P p w with e | ⟨r, hr, e, -⟩
    · rw [e, if_neg (show ¬ (0 : Int32) ≤ -1 by decide), if_pos rfl, Int32.or_zero, lt_df]
    · rw [e, if_pos (n0le (by omega)), (ix_p0 hp4).1, if_neg (ix_p0 hp4).2, if_neg (nn_ne_m1 (by omega))]
      have hc := m_capital (S := upd S (46 + 4 * p) (nn r)) (R := R) (P := P) ((upd_ne (by omega)).trans hI.1.2.2.1) hR9 ((upd_ne (by omega)).trans hI.1.2.2.2.1) hP4
      obtain ⟨c, hc9, ec⟩ := capF_on (g := upd (gR S) p (nn r)) (P := P) (R := R) hp hr upd_at
      rw [gR_upd] at hc
      simp only [lt_df]
      rw [hc, bnd1_s, if_neg (ix_p0 hp4).2, upd_back]
      unfold capB
      rw [ec, if_neg (nn_ne_m1 (by omega))]
  rw [iter_for (s := (S, v, (-1 : Int32))) (st := fun k => if k = 0 then (S, v, (-1 : Int32)) else if k = 1 then (S, v ||| balB S R P p (-1), (1 : Int32)) else (S, (v ||| balB S R P p (-1)) ||| balB S R P p 1, (3 : Int32))) (n := 2) (out := (S, (v ||| balB S R P p (-1)) ||| balB S R P p 1)) rfl (by omega) ?hs ?he]
  case hs =>
    intro k hk
    rcases (show k = 0 ∨ k = 1 by omega) with rfl | rfl
    · exact hone _ _ (Or.inl rfl)
    · exact hone _ _ (Or.inr rfl)
  case he =>
    show f12_ballot_B41 (nn p) S _ 3 = _
    unfold f12_ballot_B41
    rw [if_pos (by decide)]
    rfl
theorem m_ballot26 (hI : IV R P S) : f12_ballot_J26 S (capB (gR S) P R) = some (balC S R P (2 * P), S) := by
  have hP4 := hI.1.2.1
  unfold f12_ballot_J26
  rw [iter_for (s := (S, capB (gR S) P R, (0 : Int32))) (st := fun k => (S, balC S R P (2 * k), nn k)) (n := P) (out := (S, balC S R P (2 * P))) rfl (by omega) ?hs ?he]
  · rfl
  case hs =>
    intro k hk
    unfold f12_ballot_B29
    dsimp only
    rw [if_neg (show ¬ S 1 ≤ nn k by rw [hI.1.2.2.2.1]; exact nle (by omega) (by omega) (by omega)), m_ballot41 hI hk, bnd2_s]
    simp only [lt_df, nn_succ]
    have e : balC S R P (2 * (k + 1)) = (balC S R P (2 * k) ||| balB S R P k 1) ||| balB S R P k (-1) := by
      show (balC S R P (2 * k) ||| balB S R P (2 * k / 2) (sWy (2 * k))) ||| balB S R P ((2 * k + 1) / 2) (sWy (2 * k + 1)) = _
      rw [show 2 * k / 2 = k by omega, show (2 * k + 1) / 2 = k by omega]
      unfold sWy
      rw [if_pos (by omega), if_neg (by omega)]
    rw [e, Int32.or_assoc, Int32.or_comm (balB S R P k (-1)), ← Int32.or_assoc]
  case he =>
    unfold f12_ballot_B29
    dsimp only
    rw [if_pos (show S 1 ≤ nn P by rw [hI.1.2.2.2.1]; exact Int32.le_refl _)]
theorem r_ballot {th tb : Int32} {tr tg tw ts tk : Nat → Int32} {qn qt : Nat} (hI : IV R P S) (hW : RWd S hour broken rung grip want slips worn) (hL : RLd R P S rungs people room strength weight told) : ∃ v th1 tb1 tr1 tg1 tw1 ts1 tk1 qt1, f11_ballot hour broken rung grip want slips worn rungs people room th tb tr tg tw ts tk qn qt = some (v, th1, tb1, tr1, tg1, tw1, ts1, tk1, qt1) ∧ f12_ballot S = some (v, S) := by
  have hR9 := hI.1.1
  have hP4 := hI.1.2.1
  obtain ⟨tr1, hc⟩ := c_possible (th := th) (tb := tb) (tr := tr) (tg := tg) (tw := tw) (ts := ts) (tk := tk) (hour' := 0) hI hW hL
  unfold f11_ballot f12_ballot
  rcases p_has hI with ⟨h0, e1, e2⟩ | ⟨h0, e1, e2⟩
  · rw [hL.1, e1, e2]; exact ⟨_, _, _, _, _, _, _, _, _, rfl, rfl⟩
  · have hk : f11_hasLadder rungs = some 1 := by rw [hL.1]; exact e1
    rw [hk, e2, bnd1_s, bnd1_s, if_neg (show ¬ (1 : Int32) = 0 by decide), if_neg (show ¬ (1 : Int32) = 0 by decide), hc, bnd8_s]
    refine ⟨_, _, _, _, _, _, _, _, _, rfl, ?_⟩
    rw [m_capital hI.1.2.2.1 hR9 hI.1.2.2.2.1 hP4, bnd1_s]
    have hb := m_ballot26 hI
    unfold capB at hb
    rcases (capF_le (gR S) P R).2 with ⟨e, -⟩ | ⟨c, hc9, e, -⟩
    · rw [e, if_pos rfl] at hb
      rw [e, if_neg (show ¬ (0 : Int32) ≤ -1 by decide)]; exact hb
    · rw [e, if_neg (nn_ne_m1 (by omega))] at hb
      rw [e, if_pos (n0le (by omega)), bnd1_s]; exact hb
end
