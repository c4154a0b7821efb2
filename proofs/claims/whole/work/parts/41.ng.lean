/-! acts kept, acts undone -/
section
variable {S S' w : Nat → Int32} {R P : Nat} {hour broken rungs people : Int32} {rung grip want slips worn room strength weight told : Nat → Int32} {ph pb : Nat → Int32} {pr pg pw ps pk : Nat → Nat → Int32}
def En (w : Nat → Int32) (i k : Nat) : Int32 := w (62 * i + k)
theorem ov_lt {k : Nat} {f g : Nat → Int32} {i : Nat} (h : i < k) : ov k f g i = f i := by unfold ov; rw [if_pos h]
theorem ov_ge {k : Nat} {f g : Nat → Int32} {i : Nat} (h : ¬ i < k) : ov k f g i = g i := by unfold ov; rw [if_neg h]
theorem ov_eq {k : Nat} {f f' g g' : Nat → Int32} (h1 : ∀ i, i < k → f i = f' i) (h2 : ∀ i, k ≤ i → g i = g' i) : ov k f g = ov k f' g' := by
  funext i
  by_cases h : i < k
  · rw [ov_lt h, ov_lt h]; exact h1 i h
  · rw [ov_ge h, ov_ge h]; exact h2 i (by omega)
theorem ov_self {k : Nat} {f g : Nat → Int32} (h : ∀ i, i < k → f i = g i) : ov k f g = g := by
  funext i
  by_cases h2 : i < k
  · rw [ov_lt h2]; exact h i h2
  · rw [ov_ge h2]
theorem m_keepA {c : Nat} (hc : c < 20) : ∃ w', f12_keepsAct_J50 S w (nn c) = some (w', nn (c + 1)) ∧ (∀ i, i < c → ∀ k, k < 62 → En w' i k = En w i k) ∧ ∀ k, k < 62 → En w' c k = S k := by
  refine ⟨fun j => if 62 * c ≤ j ∧ j < 62 * c + 62 then S (j - 62 * c) else w j, ?_, ?_, ?_⟩
  · unfold f12_keepsAct_J50
    rw [iter_for (s := (w, (0 : Int32))) (st := fun k => ((fun j => if 62 * c ≤ j ∧ j < 62 * c + k then S (j - 62 * c) else w j), nn k)) (n := 62) (out := fun j => if 62 * c ≤ j ∧ j < 62 * c + 62 then S (j - 62 * c) else w j) ?h0 (by omega) ?hs ?he]
    · rw [bnd1_s, lt_df, nn_succ]
    case h0 =>
      refine Prod.ext (funext fun j => ?_) rfl
      exact if_neg (by omega)
    case hs =>
      intro k hk
      have hi : (62 : Int32) * nn c + nn k = nn (62 * c + k) := by rw [show (62 : Int32) = nn 62 from rfl, nn_mul, nn_add]
      unfold f12_keepsAct_B52
      dsimp only
      rw [if_neg (show ¬ (62 : Int32) ≤ nn k from nle (a := 62) (by omega) (by omega) (by omega)), hi, nn_nat (show k < 2147483648 by omega), nn_nat (show 62 * c + k < 2147483648 by omega), if_neg (ng (by omega) (by omega)), lt_df, if_neg (ng (by omega) (by omega))]
      simp only [lt_df, nn_succ]
      congr 3
      funext j
      by_cases h : j = 62 * c + k
      · subst h
        rw [upd_at, if_pos (by omega)]
        congr 1; omega
      · rw [upd_ne h]
        by_cases h2 : 62 * c ≤ j ∧ j < 62 * c + k
        · rw [if_pos h2, if_pos (by omega)]
        · rw [if_neg h2, if_neg (by omega)]
    case he =>
      unfold f12_keepsAct_B52
      dsimp only
      rw [if_pos (by decide)]
  · intro i hi k hk
    unfold En
    dsimp only
    rw [if_neg (by omega)]
  · intro k hk
    unfold En
    dsimp only
    rw [if_pos (by omega)]
    congr 1; omega
theorem m_shift : ∃ w', iter (fun (z : (Nat → Int32) × Int32) => f12_keepsAct_B12 z.1 z.2) FUEL (w, 62) = some w' ∧ ∀ i, i < 19 → ∀ k, k < 62 → En w' i k = En w (i + 1) k := by
  refine ⟨fun j => if j < 1178 then w (j + 62) else w j, ?_, ?_⟩
  · rw [iter_for (s := (w, (62 : Int32))) (st := fun k => ((fun j => if j < k then w (j + 62) else w j), nn (62 + k))) (n := 1178) (out := fun j => if j < 1178 then w (j + 62) else w j) ?h0 (by omega) ?hs ?he]
    case h0 =>
      refine Prod.ext (funext fun j => ?_) rfl
      show (if j < 0 then w (j + 62) else w j) = w j
      exact if_neg (by omega)
    case hs =>
      intro k hk
      have hi : nn (62 + k) - 62 = nn k := by
        rw [show (62 : Int32) = nn 62 from rfl, ← nn_add, Int32.add_comm, Int32.add_sub_cancel]
      unfold f12_keepsAct_B12
      dsimp only
      rw [if_neg (show ¬ (1240 : Int32) ≤ nn (62 + k) from nle (a := 1240) (by omega) (by omega) (by omega)), hi, nn_nat (show 62 + k < 2147483648 by omega), nn_nat (show k < 2147483648 by omega), if_neg (ng (by omega) (by omega)), lt_df, if_neg (ng (by omega) (by omega))]
      simp only [lt_df, nn_succ]
      congr 3
      funext j
      by_cases h : j = k
      · subst h
        rw [upd_at, if_neg (by omega), if_pos (by omega)]
        congr 1; omega
      · rw [upd_ne h]
        by_cases h2 : j < k
        · rw [if_pos h2, if_pos (by omega)]
        · rw [if_neg h2, if_neg (by omega)]
    case he =>
      unfold f12_keepsAct_B12
      dsimp only
      rw [if_pos (by decide)]
  · intro i hi k hk
    unfold En
    dsimp only
    rw [if_pos (by omega)]
    congr 1; omega
theorem m_keepsAct {c : Nat} (hc : c < 21) : ∃ w' c', f12_keepsAct S w (nn c) = some (w', nn c') ∧ ((c < 20 ∧ c' = c + 1 ∧ (∀ i, i < c → ∀ k, k < 62 → En w' i k = En w i k) ∧ ∀ k, k < 62 → En w' c k = S k) ∨ (c = 20 ∧ c' = 20 ∧ (∀ i, i < 19 → ∀ k, k < 62 → En w' i k = En w (i + 1) k) ∧ ∀ k, k < 62 → En w' 19 k = S k)) := by
  unfold f12_keepsAct
  by_cases h : c = 20
  · subst h
    obtain ⟨w1, e1, h1⟩ := m_shift (w := w)
    obtain ⟨w2, e2, h2, h3⟩ := m_keepA (S := S) (w := w1) (c := 19) (by decide)
    rw [if_pos (show nn 20 = 20 from rfl), e1, bnd1_s, lt_df]
    exact ⟨w2, 20, e2, Or.inr ⟨rfl, rfl, fun i hi k hk => (h2 i hi k hk).trans (h1 i hi k hk), h3⟩⟩
  · obtain ⟨w2, e2, h2, h3⟩ := m_keepA (S := S) (w := w) (c := c) (by omega)
    rw [if_neg (show ¬ nn c = 20 from nne (b := 20) (by omega) (by omega) h)]
    exact ⟨w2, c + 1, e2, Or.inl ⟨by omega, rfl, h2, h3⟩⟩
/-- the place of the i-th kept act in the ring -/
def sl (nx c i : Nat) : Nat := if c ≤ nx + i then nx + i - c else nx + 20 + i - c
def updF (f : Nat → Nat → Int32) (i : Nat) (x : Nat → Int32) : Nat → Nat → Int32 := fun j => if j = i then x else f j
theorem updF_at {f : Nat → Nat → Int32} {i : Nat} {x : Nat → Int32} : updF f i x i = x := by unfold updF; rw [if_pos rfl]
theorem updF_ne {f : Nat → Nat → Int32} {i j : Nat} {x : Nat → Int32} (h : j ≠ i) : updF f i x j = f j := by unfold updF; rw [if_neg h]
def RPa (R P : Nat) (S w : Nat → Int32) (c nx : Nat) (ph pb : Nat → Int32) (pr pg pw ps pk : Nat → Nat → Int32) : Prop :=
  c < 21 ∧ nx < 20 ∧ ∀ i, i < c → IV R P (ov 62 (En w i) S) ∧ St S (ov 62 (En w i) S) ∧ RWd (ov 62 (En w i) S) (ph (sl nx c i)) (pb (sl nx c i)) (pr (sl nx c i)) (pg (sl nx c i)) (pw (sl nx c i)) (ps (sl nx c i)) (pk (sl nx c i))
theorem RPa.st {c nx : Nat} (h : RPa R P S w c nx ph pb pr pg pw ps pk) (e : St S S') : RPa R P S' w c nx ph pb pr pg pw ps pk := by
  refine ⟨h.1, h.2.1, fun i hi => ?_⟩
  obtain ⟨h1, h2, h3⟩ := h.2.2 i hi
  have e2 : ov 62 (En w i) S' = ov 62 (En w i) S := ov_eq (fun _ _ => rfl) (fun k hk => e.2.2.2 k hk)
  rw [e2]
  refine ⟨h1, ⟨h2.1.trans e.1.symm, h2.2.1.trans e.2.1.symm, fun r hr => ⟨(h2.2.2.1 r hr).1.trans (e.2.2.1 r hr).1.symm, (h2.2.2.1 r hr).2.trans (e.2.2.1 r hr).2.symm⟩, fun k hk => (h2.2.2.2 k hk).trans (e.2.2.2 k hk).symm⟩, h3⟩
theorem RPa.lo {c nx : Nat} (h : RPa R P S w c nx ph pb pr pg pw ps pk) (e : Lo S S') : RPa R P S' w c nx ph pb pr pg pw ps pk := by
  refine ⟨h.1, h.2.1, fun i hi => ?_⟩
  obtain ⟨h1, h2, h3⟩ := h.2.2 i hi
  have e2 : Lo (ov 62 (En w i) S) (ov 62 (En w i) S') := by
    intro k hk
    by_cases h : k < 62
    · rw [ov_lt h, ov_lt h]
    · rw [ov_ge h, ov_ge h]; exact e k hk
  refine ⟨h1.lo e2, ⟨?_, ?_, fun r hr => ⟨?_, ?_⟩, fun k hk => ov_ge (by omega)⟩, h3.lo e2⟩
  · rw [e2 _ (by omega), e _ (by omega)]; exact h2.1
  · rw [e2 _ (by omega), e _ (by omega)]; exact h2.2.1
  · rw [e2 _ (by omega), e _ (by omega)]; exact (h2.2.2.1 r hr).1
  · rw [e2 _ (by omega), e _ (by omega)]; exact (h2.2.2.1 r hr).2
end
