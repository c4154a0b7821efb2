/-! how the relation goes on when one cell is written -/
section
variable {S : Nat → Int32} {R P : Nat} {hour broken rungs people : Int32} {rung grip want slips worn room strength weight told : Nat → Int32}
theorem RB.of {S S' : Nat → Int32} {broken : Int32} (h : RB S broken) (e : ∀ r, r < 9 → S' (13 + 4 * r) = S (13 + 4 * r)) : RB S' broken := by
  obtain ⟨b, hb, h1, h2⟩ := h
  exact ⟨b, hb, h1, fun r hr => (e r hr).trans (h2 r hr)⟩
theorem RWd.u_rung {p : Nat} (h : RWd S hour broken rung grip want slips worn) (v : Int32) : RWd (upd S (46 + 4 * p) v) hour broken (upd rung p v) grip want slips worn := by
  obtain ⟨h1, h2, h3, h4, h5, h6, h7⟩ := h
  refine ⟨by rw [upd_ne (by omega)]; exact h1, h2.of (fun r hr => upd_ne (by omega)), fun q hq => ?_, fun q hq => by rw [upd_ne (by omega)]; exact h4 q hq, fun q hq => by rw [upd_ne (by omega)]; exact h5 q hq, fun q hq => by rw [upd_ne (by omega)]; exact h6 q hq, fun q hq => by rw [upd_ne (by omega)]; exact h7 q hq⟩
  by_cases e : q = p
  · subst e; rw [upd_at, upd_at]
  · rw [upd_ne e, upd_ne (by omega)]; exact h3 q hq
theorem RWd.u_grip {p : Nat} (h : RWd S hour broken rung grip want slips worn) (v : Int32) : RWd (upd S (47 + 4 * p) v) hour broken rung (upd grip p v) want slips worn := by
  obtain ⟨h1, h2, h3, h4, h5, h6, h7⟩ := h
  refine ⟨by rw [upd_ne (by omega)]; exact h1, h2.of (fun r hr => upd_ne (by omega)), fun q hq => by rw [upd_ne (by omega)]; exact h3 q hq, fun q hq => ?_, fun q hq => by rw [upd_ne (by omega)]; exact h5 q hq, fun q hq => by rw [upd_ne (by omega)]; exact h6 q hq, fun q hq => by rw [upd_ne (by omega)]; exact h7 q hq⟩
  by_cases e : q = p
  · subst e; rw [upd_at, upd_at]
  · rw [upd_ne e, upd_ne (by omega)]; exact h4 q hq
theorem RWd.u_want {p : Nat} (h : RWd S hour broken rung grip want slips worn) (v : Int32) : RWd (upd S (48 + 4 * p) v) hour broken rung grip (upd want p v) slips worn := by
  obtain ⟨h1, h2, h3, h4, h5, h6, h7⟩ := h
  refine ⟨by rw [upd_ne (by omega)]; exact h1, h2.of (fun r hr => upd_ne (by omega)), fun q hq => by rw [upd_ne (by omega)]; exact h3 q hq, fun q hq => by rw [upd_ne (by omega)]; exact h4 q hq, fun q hq => ?_, fun q hq => by rw [upd_ne (by omega)]; exact h6 q hq, fun q hq => by rw [upd_ne (by omega)]; exact h7 q hq⟩
  by_cases e : q = p
  · subst e; rw [upd_at, upd_at]
  · rw [upd_ne e, upd_ne (by omega)]; exact h5 q hq
theorem RWd.u_slips {p : Nat} (h : RWd S hour broken rung grip want slips worn) (v : Int32) : RWd (upd S (49 + 4 * p) v) hour broken rung grip want (upd slips p v) worn := by
  obtain ⟨h1, h2, h3, h4, h5, h6, h7⟩ := h
  refine ⟨by rw [upd_ne (by omega)]; exact h1, h2.of (fun r hr => upd_ne (by omega)), fun q hq => by rw [upd_ne (by omega)]; exact h3 q hq, fun q hq => by rw [upd_ne (by omega)]; exact h4 q hq, fun q hq => by rw [upd_ne (by omega)]; exact h5 q hq, fun q hq => ?_, fun q hq => by rw [upd_ne (by omega)]; exact h7 q hq⟩
  by_cases e : q = p
  · subst e; rw [upd_at, upd_at]
  · rw [upd_ne e, upd_ne (by omega)]; exact h6 q hq
theorem RWd.u_worn {r : Nat} (hr9 : r < 9) (h : RWd S hour broken rung grip want slips worn) (v : Int32) : RWd (upd S (12 + 4 * r) v) hour broken rung grip want slips (upd worn r v) := by
  obtain ⟨h1, h2, h3, h4, h5, h6, h7⟩ := h
  refine ⟨by rw [upd_ne (by omega)]; exact h1, h2.of (fun r hr => upd_ne (by omega)), fun q hq => by rw [upd_ne (by omega)]; exact h3 q hq, fun q hq => by rw [upd_ne (by omega)]; exact h4 q hq, fun q hq => by rw [upd_ne (by omega)]; exact h5 q hq, fun q hq => by rw [upd_ne (by omega)]; exact h6 q hq, fun q hq => ?_⟩
  by_cases e : q = r
  · subst e; rw [upd_at, upd_at]
  · rw [upd_ne e, upd_ne (by omega)]; exact h7 q hq
theorem RWd.flag {r : Nat} {v broken' : Int32} (hr9 : r < 9) (h : RWd S hour broken rung grip want slips worn) (hB : RB (upd S (13 + 4 * r) v) broken') : RWd (upd S (13 + 4 * r) v) hour broken' rung grip want slips worn := by
  obtain ⟨h1, h2, h3, h4, h5, h6, h7⟩ := h
  exact ⟨by rw [upd_ne (by omega)]; exact h1, hB, fun q hq => by rw [upd_ne (by omega)]; exact h3 q hq, fun q hq => by rw [upd_ne (by omega)]; exact h4 q hq, fun q hq => by rw [upd_ne (by omega)]; exact h5 q hq, fun q hq => by rw [upd_ne (by omega)]; exact h6 q hq, fun q hq => by rw [upd_ne (by omega)]; exact h7 q hq⟩
theorem RWd.u_hour (h : RWd S hour broken rung grip want slips worn) (v : Int32) : RWd (upd S 2 v) v broken rung grip want slips worn := by
  obtain ⟨h1, h2, h3, h4, h5, h6, h7⟩ := h
  exact ⟨upd_at.symm, h2.of (fun r hr => upd_ne (by omega)), fun q hq => by rw [upd_ne (by omega)]; exact h3 q hq, fun q hq => by rw [upd_ne (by omega)]; exact h4 q hq, fun q hq => by rw [upd_ne (by omega)]; exact h5 q hq, fun q hq => by rw [upd_ne (by omega)]; exact h6 q hq, fun q hq => by rw [upd_ne (by omega)]; exact h7 q hq⟩
theorem RB.split {r : Nat} (hr : r < 9) (h : RB S broken) : RB (upd S (13 + 4 * r) 1) (broken ||| ((1 : Int32) <<< (nn r &&& 31))) := by
  obtain ⟨b, hb, rfl, h2⟩ := h
  obtain ⟨e1, e2, e3⟩ := bt_or b hb r hr
  refine ⟨_, e2, e1, fun q hq => ?_⟩
  rw [e3 q hq]
  by_cases e : q = r
  · subst e; rw [upd_at, if_pos rfl]
  · rw [upd_ne (by omega), if_neg e]; exact h2 q hq
theorem RB.mend {r : Nat} (hr : r < 9) (h : RB S broken) : RB (upd S (13 + 4 * r) 0) (broken &&& (((1 : Int32) <<< (nn r &&& 31)) ^^^ (-1 : Int32))) := by
  obtain ⟨b, hb, rfl, h2⟩ := h
  obtain ⟨e1, e2, e3⟩ := bt_clr b hb r hr
  refine ⟨_, e2, e1, fun q hq => ?_⟩
  rw [e3 q hq]
  by_cases e : q = r
  · subst e; rw [upd_at, if_pos rfl]
  · rw [upd_ne (by omega), if_neg e]; exact h2 q hq
theorem St.u_cell {i : Nat} {v : Int32} (hi : i < 62 ∧ i ≠ 0 ∧ i ≠ 1 ∧ (46 ≤ i ∨ i = 2 ∨ i % 4 < 2)) : St S (upd S i v) :=
  ⟨upd_ne (by omega), upd_ne (by omega), fun r hr => ⟨upd_ne (by omega), upd_ne (by omega)⟩, fun k hk => upd_ne (by omega)⟩
/-- a cell of a person other than what they want, or what a rung is worn, or the hour -/
theorem ZR.u_cell {i : Nat} {v : Int32} (h : ZR R P S) (hi : (46 ≤ i ∨ i < 10 + 4 * R) ∧ (i < 46 ∨ i < 46 + 4 * P)) : ZR R P (upd S i v) :=
  ⟨fun r hr hr9 => (upd_ne (by omega)).trans (h.1 r hr hr9), fun r hr hr9 => (upd_ne (by omega)).trans (h.2.1 r hr hr9), fun j hj hj2 => (upd_ne (by omega)).trans (h.2.2 j hj hj2)⟩
theorem IV0.u_cell {i : Nat} {v : Int32} (h : IV0 R P S) (hi : i < 62 ∧ i ≠ 0 ∧ i ≠ 1 ∧ (46 ≤ i ∧ i % 4 ≠ 0 ∨ i < 46 ∧ i % 4 ≠ 1) ∧ (46 ≤ i ∨ i < 10 + 4 * R) ∧ (i < 46 ∨ i < 46 + 4 * P)) : IV0 R P (upd S i v) := by
  obtain ⟨h1, h2, h3, h4, h5, h6, h7, h8⟩ := h
  exact ⟨h1, h2, by rw [upd_ne (by omega)]; exact h3, by rw [upd_ne (by omega)]; exact h4, fun r hr => by rw [upd_ne (by omega)]; exact h5 r hr, h6.u_cell hi.2.2.2.2, fun p hp => by rw [upd_ne (by omega)]; exact h7 p hp, fun p hp => by rw [upd_ne (by omega)]; exact h8 p hp⟩
theorem IV0.flag {r : Nat} {v : Int32} (h : IV0 R P S) (hr : r < R) (hv : v = 0 ∨ v = 1) : IV0 R P (upd S (13 + 4 * r) v) := by
  obtain ⟨h1, h2, h3, h4, h5, h6, h7, h8⟩ := h
  refine ⟨h1, h2, by rw [upd_ne (by omega)]; exact h3, by rw [upd_ne (by omega)]; exact h4, fun q hq => ?_, h6.u_cell (by omega), fun p hp => by rw [upd_ne (by omega)]; exact h7 p hp, fun p hp => by rw [upd_ne (by omega)]; exact h8 p hp⟩
  by_cases e : q = r
  · subst e; rw [upd_at]; exact hv
  · rw [upd_ne (by omega)]; exact h5 q hq
theorem IV0.u_want {p w : Nat} (h : IV0 R P S) (hpP : p < P) (hw : w < R) : IV0 R P (upd S (48 + 4 * p) (nn w)) := by
  obtain ⟨h1, h2, h3, h4, h5, h6, h7, h8⟩ := h
  refine ⟨h1, h2, by rw [upd_ne (by omega)]; exact h3, by rw [upd_ne (by omega)]; exact h4, fun q hq => by rw [upd_ne (by omega)]; exact h5 q hq, h6.u_cell (by omega), fun q hq => ?_, fun p hp => by rw [upd_ne (by omega)]; exact h8 p hp⟩
  by_cases e : q = p
  · subst e; rw [upd_at]; exact ⟨w, hw, rfl⟩
  · rw [upd_ne (by omega)]; exact h7 q hq
theorem OKp.of {S S' : Nat → Int32} {p : Nat} (h : OKp R S p) (hR : R < 10) (e1 : S' (46 + 4 * p) = S (46 + 4 * p)) (e2 : ∀ r, r < 9 → S' (13 + 4 * r) = S (13 + 4 * r)) : OKp R S' p := by
  rcases h with h | ⟨r, hr, h1, h2⟩
  · exact Or.inl (e1.trans h)
  · exact Or.inr ⟨r, hr, e1.trans h1, (e2 r (by omega)).trans h2⟩
theorem GRp.of {S S' : Nat → Int32} {p : Nat} (h : GRp S p) (e1 : S' (47 + 4 * p) = S (47 + 4 * p)) (e2 : S' (63 + 2 * p) = S (63 + 2 * p)) : GRp S' p := by
  obtain ⟨g, t, h1, h2, h3, h4, h5⟩ := h
  exact ⟨g, t, h1, h2, h3, e1.trans h4, e2.trans h5⟩
theorem OKp.cases {p : Nat} (h : OKp R S p) : (S (46 + 4 * p) = -1) ∨ ∃ r, r < R ∧ S (46 + 4 * p) = nn r := by
  rcases h with h | ⟨r, hr, h1, _⟩
  · exact Or.inl h
  · exact Or.inr ⟨r, hr, h1⟩
end
/-! slipping -/
def pd : Nat → Int32
  | 0 => -1
  | k + 1 => nn k
def sDn (S : Nat → Int32) : Nat → Int32
  | 0 => -1
  | k + 1 => if S (13 + 4 * k) = 0 then nn k else sDn S k
theorem pd_sub (k : Nat) : nn k - (1 : Int32) = pd k := by
  cases k with
  | zero => decide
  | succ k => exact nn_pred' k
theorem pd_add (k : Nat) : nn k + (-1 : Int32) = pd k := by
  cases k with
  | zero => decide
  | succ k => exact nn_pred k
theorem pd_cases {k : Nat} : (k = 0 ∧ pd k = -1) ∨ ∃ j, k = j + 1 ∧ pd k = nn j := by
  cases k with
  | zero => exact Or.inl ⟨rfl, rfl⟩
  | succ j => exact Or.inr ⟨j, rfl, rfl⟩
theorem sDn_cases {S : Nat → Int32} : ∀ k, sDn S k = -1 ∨ ∃ r, r < k ∧ sDn S k = nn r ∧ S (13 + 4 * r) = 0
  | 0 => Or.inl rfl
  | k + 1 => by
    simp only [sDn]
    by_cases h : S (13 + 4 * k) = 0
    · rw [if_pos h]; exact Or.inr ⟨k, by omega, rfl, h⟩
    · rw [if_neg h]
      rcases sDn_cases (S := S) k with e | ⟨r, hr, e1, e2⟩
      · exact Or.inl e
      · exact Or.inr ⟨r, by omega, e1, e2⟩
theorem c_slipL {S : Nat → Int32} {b : Nat} (hf : ∀ r, r < 9 → S (13 + 4 * r) = bt b r) : ∀ (k fuel : Nat), k ≤ 9 → k < fuel → iter (fun (z : Int32) => f10_slip_B9 (nn b) z) fuel (pd k) = some (sDn S k) := by
  intro k
  induction k with
  | zero =>
    intro fuel _ hf
    obtain ⟨f, rfl⟩ : ∃ f, fuel = f + 1 := ⟨fuel - 1, by omega⟩
    have e : f10_slip_B9 (nn b) (pd 0) = some (.inr (-1)) := by unfold f10_slip_B9; rw [if_pos (by decide)]; rfl
    unfold iter; rw [e]; rfl
  | succ k ih =>
    intro fuel h9 hfu
    obtain ⟨f, rfl⟩ : ∃ f, fuel = f + 1 := ⟨fuel - 1, by omega⟩
    have e : f10_slip_B9 (nn b) (pd (k + 1)) = if S (13 + 4 * k) = 0 then some (.inr (nn k)) else some (.inl (pd k)) := by
      unfold f10_slip_B9
      rw [show pd (k + 1) = nn k from rfl, if_neg (nlt0 (by omega)), c_isBroken, ← hf k (by omega)]
      simp only [bnd1, lt]
      by_cases h : S (13 + 4 * k) = 0
      · rw [if_pos h, if_pos h, if_pos rfl]
      · rw [if_neg h, if_neg h, if_neg (by decide), pd_add]
    unfold iter
    simp only [sDn]
    by_cases h : S (13 + 4 * k) = 0
    · rw [if_pos h] at e; rw [e, if_pos h]
    · rw [if_neg h] at e; rw [e, if_neg h]; exact ih f (by omega) (by omega)
theorem m_slideL {S : Nat → Int32} (hf : ∀ r, r < 9 → S (13 + 4 * r) = 0 ∨ S (13 + 4 * r) = 1) : ∀ (k fuel : Nat), k ≤ 9 → k < fuel → iter (fun (z : Int32) => f12_slides_B9 S z) fuel (pd k) = some (sDn S k) := by
  intro k
  induction k with
  | zero =>
    intro fuel _ hf
    obtain ⟨f, rfl⟩ : ∃ f, fuel = f + 1 := ⟨fuel - 1, by omega⟩
    have e : f12_slides_B9 S (pd 0) = some (.inr (-1)) := by unfold f12_slides_B9; rw [if_pos (by decide)]; rfl
    unfold iter; rw [e]; rfl
  | succ k ih =>
    intro fuel h9 hfu
    obtain ⟨f, rfl⟩ : ∃ f, fuel = f + 1 := ⟨fuel - 1, by omega⟩
    have e : f12_slides_B9 S (pd (k + 1)) = if S (13 + 4 * k) = 0 then some (.inr (nn k)) else some (.inl (pd k)) := by
      unfold f12_slides_B9
      rw [show pd (k + 1) = nn k from rfl, if_neg (nlt0 (by omega)), m_r3 (by omega)]
      simp only [bnd1, lt]
      rcases hf k (by omega) with h | h
      · rw [h, if_pos rfl, if_neg (by decide)]
      · rw [h, if_pos rfl, if_neg (by decide), pd_add]
    unfold iter
    simp only [sDn]
    by_cases h : S (13 + 4 * k) = 0
    · rw [if_pos h] at e; rw [e, if_pos h]
    · rw [if_neg h] at e; rw [e, if_neg h]; exact ih f (by omega) (by omega)
section
variable {S : Nat → Int32} {R P : Nat} {hour broken rungs people : Int32} {rung grip want slips worn room strength weight told : Nat → Int32}
theorem r_slide {p k : Nat} (hI : IV0 R P S) (hW : RWd S hour broken rung grip want slips worn) (hp : p < P) (hk : k < R) (hx : S (46 + 4 * p) = nn k) : ∃ S' rung' slips', f10_slip broken rung slips (nn p) = some (rung', slips') ∧ f12_slides S (nn p) = some S' ∧ RWd S' hour broken rung' grip want slips' worn ∧ IV0 R P S' ∧ St S S' ∧ OKp R S' p ∧ (∀ q, q ≠ p → S' (46 + 4 * q) = S (46 + 4 * q)) ∧ (∀ r, r < 9 → S' (13 + 4 * r) = S (13 + 4 * r)) ∧ (∀ q, S' (47 + 4 * q) = S (47 + 4 * q)) := by
  have hI' := hI
  have hW' := hW
  obtain ⟨hR9, hP4, hR, hP, hf, -⟩ := hI'
  obtain ⟨-, ⟨b, hb, hbr, hbt⟩, hrung, -, -, hslips, -⟩ := hW'
  have hp4 : p < 4 := by omega
  refine ⟨upd (upd S (46 + 4 * p) (sDn S k)) (49 + 4 * p) (S (49 + 4 * p) + 1), upd rung p (sDn S k), upd slips p (slips p + 1), ?_, ?_, ?_, (hI.u_cell (by omega)).u_cell (by omega), (St.u_cell (by omega)).tr (St.u_cell (by omega)), ?_, fun q hq => by rw [upd_ne (by omega), upd_ne (by omega)], fun r hr => by rw [upd_ne (by omega), upd_ne (by omega)], fun q => by rw [upd_ne (by omega), upd_ne (by omega)]⟩
  · unfold f10_slip
    rw [nn_nat (by omega), if_neg (ng (by omega) (by omega)), hrung p hp4, hx, pd_sub, hbr]
    simp only [lt]
    have hL : iter (fun (z : Int32) => f10_slip_B9 (nn b) z) FUEL (pd k) = some (sDn S k) := c_slipL hbt k FUEL (by omega) (Nat.lt_of_lt_of_le (show k < 10 by omega) (by decide))
    rw [hL]
    simp only [bnd1]
    have hm : (if (-1 : Int32) < sDn S k then sDn S k else -1) = sDn S k := by
      rcases sDn_cases (S := S) k with e | ⟨r, hr, e, _⟩
      · rw [e]; rfl
      · rw [e, if_pos (m1lt (by omega))]
    rw [hm]
    have hc : ¬ (nn p < 0 ∨ 4 ≤ p) := ng (by omega) (by omega)
    rw [if_neg hc, if_neg hc, if_neg hc]
  · unfold f12_slides
    rw [m_p0 hp4, hx]
    simp only [bnd1, lt]
    rw [pd_sub]
    have hL : iter (fun (z : Int32) => f12_slides_B9 S z) FUEL (pd k) = some (sDn S k) := m_slideL hf k FUEL (by omega) (Nat.lt_of_lt_of_le (show k < 10 by omega) (by decide))
    rw [hL]
    simp only []
    have i1 : Int32.toNatClampNeg ((46 : Int32) + (4 : Int32) * nn p) = 46 + 4 * p := by rw [k46, k4, nn_mul, nn_add, nn_nat (by omega)]
    have i2 : Int32.toNatClampNeg ((46 : Int32) + (4 : Int32) * nn p + (3 : Int32)) = 49 + 4 * p := by rw [k46, k4, k3, nn_mul, nn_add, nn_add, nn_nat (by omega)]; omega
    have j1 : ¬ ((46 : Int32) + (4 : Int32) * nn p < 0 ∨ 110 ≤ 46 + 4 * p) := fun h => h.elim (fun h => by rw [k46, k4, nn_mul, nn_add, nn_lt0 (by omega)] at h; exact h) (fun h => by omega)
    have j2 : ¬ ((46 : Int32) + (4 : Int32) * nn p + (3 : Int32) < 0 ∨ 110 ≤ 49 + 4 * p) := fun h => h.elim (fun h => by rw [k46, k4, k3, nn_mul, nn_add, nn_add, nn_lt0 (by omega)] at h; exact h) (fun h => by omega)
    rw [i1, i2, if_neg j1, if_neg j2, if_neg j2, upd_ne (by omega)]
  · rw [hslips p hp4]
    exact (hW.u_rung _).u_slips _
  · unfold OKp
    rw [upd_ne (by omega), upd_at]
    rcases sDn_cases (S := S) k with e | ⟨r, hr, e, e2⟩
    · exact Or.inl e
    · exact Or.inr ⟨r, by omega, e, by rw [upd_ne (by omega), upd_ne (by omega)]; exact e2⟩
end
