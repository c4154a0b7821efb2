section
variable {S : Nat → Int32} {R P : Nat} {hour broken rungs people : Int32} {rung grip want slips worn room strength weight told : Nat → Int32}
theorem ix_p0 {p : Nat} (hp : p < 4) : Int32.toNatClampNeg ((46 : Int32) + (4 : Int32) * nn p) = 46 + 4 * p ∧ ¬ ((46 : Int32) + (4 : Int32) * nn p < 0 ∨ 110 ≤ 46 + 4 * p) := by
  rw [k46, k4, nn_mul, nn_add, nn_nat (by omega)]; exact ⟨rfl, ng (by omega) (by omega)⟩
theorem ix_p1 {p : Nat} (hp : p < 4) : Int32.toNatClampNeg ((46 : Int32) + (4 : Int32) * nn p + (1 : Int32)) = 47 + 4 * p ∧ ¬ ((46 : Int32) + (4 : Int32) * nn p + (1 : Int32) < 0 ∨ 110 ≤ 47 + 4 * p) := by
  rw [k46, k4, k1, nn_mul, nn_add, nn_add, nn_nat (by omega)]; exact ⟨by omega, fun h => h.elim (fun h => by rw [nn_lt0 (by omega)] at h; exact h) (fun h => by omega)⟩
theorem ix_p2 {p : Nat} (hp : p < 4) : Int32.toNatClampNeg ((46 : Int32) + (4 : Int32) * nn p + (2 : Int32)) = 48 + 4 * p ∧ ¬ ((46 : Int32) + (4 : Int32) * nn p + (2 : Int32) < 0 ∨ 110 ≤ 48 + 4 * p) := by
  rw [k46, k4, k2, nn_mul, nn_add, nn_add, nn_nat (by omega)]; exact ⟨by omega, fun h => h.elim (fun h => by rw [nn_lt0 (by omega)] at h; exact h) (fun h => by omega)⟩
theorem ix_r2 {r : Nat} (hr : r < 9) : Int32.toNatClampNeg ((10 : Int32) + (4 : Int32) * nn r + (2 : Int32)) = 12 + 4 * r ∧ ¬ ((10 : Int32) + (4 : Int32) * nn r + (2 : Int32) < 0 ∨ 110 ≤ 12 + 4 * r) := by
  rw [k10, k4, k2, nn_mul, nn_add, nn_add, nn_nat (by omega)]; exact ⟨by omega, fun h => h.elim (fun h => by rw [nn_lt0 (by omega)] at h; exact h) (fun h => by omega)⟩
theorem ix_r3 {r : Nat} (hr : r < 9) : Int32.toNatClampNeg ((10 : Int32) + (4 : Int32) * nn r + (3 : Int32)) = 13 + 4 * r ∧ ¬ ((10 : Int32) + (4 : Int32) * nn r + (3 : Int32) < 0 ∨ 110 ≤ 13 + 4 * r) := by
  rw [k10, k4, k3, nn_mul, nn_add, nn_add, nn_nat (by omega)]; exact ⟨by omega, fun h => h.elim (fun h => by rw [nn_lt0 (by omega)] at h; exact h) (fun h => by omega)⟩
/-- a rung splits: who is on it slips, by numbers -/
theorem r_split {r : Nat} (hI : IV0 R P S) (hOK : ∀ p, p < P → OKp R S p) (hW : RWd S hour broken rung grip want slips worn) (hr : r < R) : ∃ v broken' rung' slips' S', f10_split broken rung slips (nn P) (nn r) = some (v, broken', rung', slips') ∧ f12_breaksNow S (nn r) = some (v, S') ∧ RWd S' hour broken' rung' grip want slips' worn ∧ IV0 R P S' ∧ St S S' ∧ (∀ p, p < P → OKp R S' p) ∧ (∀ q, S' (47 + 4 * q) = S (47 + 4 * q)) := by
  have hR9 := hI.1
  have hP4 := hI.2.1
  have hB1 := hW.2.1.split (r := r) (by omega)
  have hW1 := hW.flag (r := r) (v := 1) (by omega) hB1
  have hI1 := hI.flag (r := r) (v := 1) hr (Or.inr rfl)
  unfold f10_split f12_breaksNow
  rw [(ix_r3 (by omega)).1, if_neg (ix_r3 (by omega)).2]
  simp only [lt]
  generalize hbr : (broken ||| ((1 : Int32) <<< (nn r &&& 31))) = broken' at hB1 hW1 ⊢
  have key := iter_twoF (B := fun (z : (Nat → Int32) × (Nat → Int32) × Int32 × Int32) => f10_split_B16 (nn P) (nn r) broken' z.1 z.2.1 z.2.2.1 z.2.2.2) (C := fun (z : (Nat → Int32) × Int32 × Int32) => f12_breaksNow_B18 (nn r) z.1 z.2.1 z.2.2) (s := (rung, slips, (0 : Int32), (0 : Int32))) (t := (upd S (13 + 4 * r) 1, (0 : Int32), (0 : Int32))) (n := P)
    (I := fun n a b => ∃ k, n + k = P ∧ a.2.2.2 = nn k ∧ b.2.2 = nn k ∧ a.2.2.1 = b.2.1 ∧ RWd b.1 hour broken' a.1 grip want a.2.1 worn ∧ IV0 R P b.1 ∧ St S b.1 ∧ (∀ q, q < P → OKp R b.1 q ∨ (k ≤ q ∧ b.1 (46 + 4 * q) = nn r)) ∧ (∀ q, b.1 (47 + 4 * q) = S (47 + 4 * q)))
    (Po := fun a b => a.2.2 = b.2 ∧ RWd b.1 hour broken' a.1 grip want a.2.1 worn ∧ IV0 R P b.1 ∧ St S b.1 ∧ (∀ q, q < P → OKp R b.1 q) ∧ (∀ q, b.1 (47 + 4 * q) = S (47 + 4 * q)))
    ⟨0, rfl, rfl, rfl, rfl, hW1, hI1, St.u_cell (by omega), fun q hq => by
      by_cases e : S (46 + 4 * q) = nn r
      · exact Or.inr ⟨by omega, (upd_ne (by omega)).trans e⟩
      · rcases hOK q hq with h | ⟨r', hr', h1, h2⟩
        · exact Or.inl (Or.inl ((upd_ne (by omega)).trans h))
        · have : r' ≠ r := by rintro rfl; exact e h1
          exact Or.inl (Or.inr ⟨r', hr', (upd_ne (by omega)).trans h1, (upd_ne (by omega)).trans h2⟩), fun q => upd_ne (by omega)⟩ (by omega)
    (by
      rintro n ⟨rg, sl, m, i⟩ ⟨T, m', i'⟩ ⟨k, hk, rfl, rfl, rfl, hWk, hIk, hSt, hok, hgr⟩
      dsimp only at hWk hIk hSt hok hgr ⊢
      unfold f10_split_B16 f12_breaksNow_B18
      rw [hIk.2.2.2.1]
      by_cases hkP : P ≤ k
      · right
        rw [if_pos (nleT (by omega) (by omega) hkP), if_pos (nleT (by omega) (by omega) hkP)]
        exact ⟨_, _, rfl, rfl, rfl, hWk, hIk, hSt, fun q hq => (hok q hq).resolve_right (by omega), hgr⟩
      · left
        rw [if_neg (nle (by omega) (by omega) hkP), if_neg (nle (by omega) (by omega) hkP), nn_nat (by omega), if_neg (ng (by omega) (by omega)), m_p0 (by omega), hWk.2.2.1 k (by omega)]
        simp only [bnd1]
        by_cases e : T (46 + 4 * k) = nn r
        · rw [if_pos e, if_pos e]
          obtain ⟨S', rung', slips', e1, e2, hW2, hI2, hSt2, hok2, h46, h13, h47⟩ := r_slide hIk hWk (show k < P by omega) hr e
          rw [e1, e2]
          simp only [bnd1, bnd2, lt, nn_succ]
          refine ⟨_, _, n - 1, rfl, rfl, by omega, k + 1, by omega, rfl, rfl, rfl, hW2, hI2, hSt.tr hSt2, fun q hq => ?_, fun q => (h47 q).trans (hgr q)⟩
          by_cases hqk : q = k
          · subst hqk; exact Or.inl hok2
          · rcases hok q hq with h | ⟨h1, h2⟩
            · exact Or.inl (h.of hR9 (h46 q hqk) h13)
            · exact Or.inr ⟨by omega, (h46 q hqk).trans h2⟩
        · rw [if_neg e, if_neg e]
          simp only [lt, nn_succ]
          refine ⟨_, _, n - 1, rfl, rfl, by omega, k + 1, by omega, rfl, rfl, rfl, hWk, hIk, hSt, fun q hq => ?_, hgr⟩
          rcases hok q hq with h | ⟨h1, h2⟩
          · exact Or.inl h
          · exact Or.inr ⟨by rcases Nat.lt_or_eq_of_le h1 with h | h; exact h; subst h; exact absurd h2 e, h2⟩)
  obtain ⟨⟨rg, sl, m⟩, ⟨T, m'⟩, e1, e2, rfl, h1, h2, h3, h4, h5⟩ := key
  rw [e1, e2]
  exact ⟨_, _, _, _, _, rfl, rfl, h1, h2, h3, h4, h5⟩
/-- all rungs are worn, then those that are worn out break, from the highest on -/
theorem r_wear {hb0 bk0 : Int32} (hI : IV R P S) (hW : RWd S hour broken rung grip want slips worn) (hL : RLd R P S rungs people room strength weight told) : ∃ v br broken' rung' slips' worn' S', f0_wear hb0 broken rung slips worn rungs people strength weight = some (v, br, broken', rung', slips', worn') ∧ f12_wears S bk0 = some (v, S', br) ∧ RWd S' hour broken' rung' grip want slips' worn' ∧ IV R P S' ∧ St S S' ∧ (br = -1 ∨ ∃ r, r < R ∧ br = nn r) := by
  obtain ⟨hI0, hOK, hGR⟩ := hI
  have hR9 := hI0.1
  have hP4 := hI0.2.1
  unfold f0_wear f12_wears
  have key1 := iter_twoF (B := fun (z : (Nat → Int32) × Int32) => f0_wear_B7 rungs rung people weight z.1 z.2) (C := fun (z : (Nat → Int32) × Int32) => f12_wears_B9 z.1 z.2) (s := (worn, (0 : Int32))) (t := (S, (0 : Int32))) (n := R)
    (I := fun n a b => ∃ k, n + k = R ∧ a.2 = nn k ∧ b.2 = nn k ∧ RWd b.1 hour broken rung grip want slips a.1 ∧ IV0 R P b.1 ∧ St S b.1 ∧ (∀ q, q < P → OKp R b.1 q) ∧ (∀ q, b.1 (47 + 4 * q) = S (47 + 4 * q)))
    (Po := fun a b => RWd b hour broken rung grip want slips a ∧ IV0 R P b ∧ St S b ∧ (∀ q, q < P → OKp R b q) ∧ (∀ q, b (47 + 4 * q) = S (47 + 4 * q)))
    ⟨0, rfl, rfl, rfl, hW, hI0, St.rf, hOK, fun _ => rfl⟩ (by omega)
    (by
      rintro n ⟨wn, i⟩ ⟨T, i'⟩ ⟨k, hk, rfl, rfl, hWk, hIk, hSt, hok, hgr⟩
      dsimp only at hWk hIk hSt hok hgr ⊢
      unfold f0_wear_B7 f12_wears_B9
      rw [hIk.2.2.1, hL.1]
      by_cases hkR : R ≤ k
      · right
        rw [if_pos (nleT (by omega) (by omega) hkR), if_pos (nleT (by omega) (by omega) hkR)]
        exact ⟨_, _, rfl, rfl, hWk, hIk, hSt, hok, hgr⟩
      · left
        have hLk := hL.st hSt hR9
        rw [if_neg (nle (by omega) (by omega) hkR), if_neg (nle (by omega) (by omega) hkR), nn_nat (by omega), if_neg (ng (by omega) (by omega)), hL.2.1, c_weightOn hP4, m_weightOn hIk.2.2.2.1 hP4, wtF_congr (g' := gR T) (w' := gW T) (fun p hp => hWk.2.2.1 p (by omega)) (fun p hp => hLk.2.2.2.2.1 p hp)]
        simp only [bnd1, lt, nn_succ]
        rw [(ix_r2 (by omega)).1, if_neg (ix_r2 (by omega)).2, if_neg (ix_r2 (by omega)).2, if_neg (ng (by omega) (by omega)), hWk.2.2.2.2.2.2 k (by omega)]
        refine ⟨_, _, n - 1, rfl, rfl, by omega, k + 1, by omega, rfl, rfl, hWk.u_worn (by omega) _, hIk.u_cell (by omega), hSt.tr (St.u_cell (by omega)), fun q hq => (hok q hq).of hR9 (upd_ne (by omega)) (fun r hr => upd_ne (by omega)), fun q => (upd_ne (by omega)).trans (hgr q)⟩)
  obtain ⟨wn, T, e1, e2, hW1, hI1, hSt1, hok1, hgr1⟩ := key1
  rw [e1, e2]
  simp only [bnd1, lt]
  rw [hI1.2.2.1, hL.1, pd_sub]
  have key2 := iter_twoF (B := fun (z : Int32 × Int32 × (Nat → Int32) × (Nat → Int32) × Int32 × Int32) => f0_wear_B50 wn strength people z.1 z.2.1 z.2.2.1 z.2.2.2.1 z.2.2.2.2.1 z.2.2.2.2.2) (C := fun (z : (Nat → Int32) × Int32 × Int32 × Int32) => f12_wears_B55 z.1 z.2.1 z.2.2.1 z.2.2.2) (s := ((-1 : Int32), broken, rung, slips, (0 : Int32), pd R)) (t := (T, (-1 : Int32), (0 : Int32), pd R)) (n := R)
    (I := fun n a b => n ≤ R ∧ a.2.2.2.2.2 = pd n ∧ b.2.2.2 = pd n ∧ a.2.2.2.2.1 = b.2.2.1 ∧ a.1 = b.2.1 ∧ (a.1 = -1 ∨ ∃ r, r < R ∧ n ≤ r ∧ a.1 = nn r) ∧ RWd b.1 hour a.2.1 a.2.2.1 grip want a.2.2.2.1 wn ∧ IV0 R P b.1 ∧ St S b.1 ∧ (∀ q, q < P → OKp R b.1 q) ∧ (∀ q, b.1 (47 + 4 * q) = S (47 + 4 * q)))
    (Po := fun a b => a.2.2.2.2 = b.2.2 ∧ a.1 = b.2.1 ∧ (a.1 = -1 ∨ ∃ r, r < R ∧ a.1 = nn r) ∧ RWd b.1 hour a.2.1 a.2.2.1 grip want a.2.2.2.1 wn ∧ IV0 R P b.1 ∧ St S b.1 ∧ (∀ q, q < P → OKp R b.1 q) ∧ (∀ q, b.1 (47 + 4 * q) = S (47 + 4 * q)))
    ⟨Nat.le_refl _, rfl, rfl, rfl, rfl, Or.inl rfl, hW1, hI1, hSt1, hok1, hgr1⟩ (by omega)
    (by
      rintro n ⟨br, bk, rg, sl, m, i⟩ ⟨U, br', m', i'⟩ ⟨hn, rfl, rfl, rfl, rfl, hbr, hWk, hIk, hSt, hok, hgr⟩
      dsimp only at hbr hWk hIk hSt hok hgr ⊢
      unfold f0_wear_B50 f12_wears_B55
      rcases pd_cases (k := n) with ⟨rfl, e⟩ | ⟨j, rfl, e⟩
      · right
        rw [e, if_pos (by decide), if_pos (by decide)]
        exact ⟨_, _, rfl, rfl, rfl, rfl, hbr.imp_right (fun ⟨r, h1, _, h2⟩ => ⟨r, h1, h2⟩), hWk, hIk, hSt, hok, hgr⟩
      · left
        have hLk := hL.st hSt hR9
        obtain ⟨b, hb, hbb, hbt⟩ := hWk.2.1
        rw [e, if_neg (nlt0 (by omega)), if_neg (nlt0 (by omega)), hbb, c_isBroken, ← hbt j (by omega), m_r3 (by omega), m_r2 (by omega), m_r1 (by omega)]
        simp only [bnd1, lt, pd_add]
        rcases hIk.2.2.2.2.1 j (by omega) with h0 | h1
        · rw [h0, if_pos rfl, if_pos rfl, nn_nat (by omega), if_neg (ng (by omega) (by omega)), if_neg (ng (by omega) (by omega)), if_neg (show ¬ ((0 : Int32) = 1) by decide), hWk.2.2.2.2.2.2 j (by omega), hLk.2.2.2.1 j (by omega)]
          by_cases hlt : U (12 + 4 * j) < U (11 + 4 * j)
          · rw [if_pos hlt, if_neg (Int32.not_le.mpr hlt)]
            exact ⟨_, _, j, rfl, rfl, by omega, by omega, rfl, rfl, rfl, rfl, hbr.imp_right (fun ⟨r, h1, h2, h3⟩ => ⟨r, h1, by omega, h3⟩), hbb ▸ hWk, hIk, hSt, hok, hgr⟩
          · rw [if_neg hlt, if_pos (Int32.not_lt.mp hlt)]
            obtain ⟨v, bk', rg', sl', U', f1, f2, hW2, hI2, hSt2, hok2, h47⟩ := r_split hIk hok hWk (show j < R by omega)
            rw [hbb] at f1
            rw [hL.2.1, f1]
            unfold f12_wears_J103
            rw [f2]
            simp only [bnd2, bnd4, lt, pd_add]
            have hmx : ∃ br2, (if br < nn j then nn j else br) = br2 ∧ (0 ≤ br → br2 = br) ∧ (¬ 0 ≤ br → br2 = nn j) ∧ (br2 = -1 ∨ ∃ r, r < R ∧ j ≤ r ∧ br2 = nn r) := by
              rcases hbr with rfl | ⟨r, hr, hjr, rfl⟩
              · refine ⟨nn j, by rw [if_pos (m1lt (by omega))], fun h => absurd h (by decide), fun _ => rfl, Or.inr ⟨j, by omega, by omega, rfl⟩⟩
              · refine ⟨nn r, by rw [if_neg (nlt (by omega) (by omega) (by omega))], fun _ => rfl, fun h => absurd (by rw [nn_0le (by omega)]; trivial) h, Or.inr ⟨r, hr, by omega, rfl⟩⟩
            obtain ⟨br2, hb1, hb2, hb3, hb4⟩ := hmx
            rw [hb1]
            by_cases h9 : 0 ≤ br
            · rw [if_pos h9, ← hb2 h9]
              exact ⟨_, _, j, rfl, rfl, by omega, by omega, rfl, rfl, rfl, rfl, hb4, hW2, hI2, hSt.tr hSt2, hok2, fun q => (h47 q).trans (hgr q)⟩
            · rw [if_neg h9, ← hb3 h9]
              exact ⟨_, _, j, rfl, rfl, by omega, by omega, rfl, rfl, rfl, rfl, hb4, hW2, hI2, hSt.tr hSt2, hok2, fun q => (h47 q).trans (hgr q)⟩
        · rw [h1, if_neg (by decide), if_pos rfl]
          exact ⟨_, _, j, rfl, rfl, by omega, by omega, rfl, rfl, rfl, rfl, hbr.imp_right (fun ⟨r, h1, h2, h3⟩ => ⟨r, h1, by omega, h3⟩), hbb ▸ hWk, hIk, hSt, hok, hgr⟩)
  obtain ⟨⟨br, bk, rg, sl, m⟩, ⟨U, br', m'⟩, f1, f2, rfl, rfl, hbr, h1, h2, h3, h4, h5⟩ := key2
  rw [f1, f2]
  exact ⟨_, _, _, _, _, _, _, rfl, rfl, h1, ⟨h2, h4, fun p hp => (hGR p hp).of (h5 p) (h3.2.2.2 _ (by omega))⟩, h3, hbr⟩
end
