/-! all the rules are tried (the class's loop over its row of rules, written by hand as the walker would) -/
def f3_tryRules_B (rls : Nat → Option Nat) (rc : Int32) (pR : Nat → Nat) (ncF : Nat → Nat) (codeF : Nat → Nat → Int32) (nsF : Nat → Nat) (seF : Nat → Nat → Int32) (ntF : Nat → Nat) (teF : Nat → Nat → Int32) (notes : Int32) (nh nr nm : Nat → Int32) (rungs people sbr : Int32) (room strength weight told srg swt : Nat → Int32) (n : Int32)
    (z : Int32 × Int32 × (Nat → Int32) × Int32 × (Nat → Int32) × (Nat → Int32) × (Nat → Int64) × Int32 × Int32 × (Nat → Int32) × (Nat → Int32) × (Nat → Int32) × (Nat → Int32) × (Nat → Int32) × (Nat → Nat → Int64) × (Nat → Int32) × Int32) :
    Option ((Int32 × Int32 × (Nat → Int32) × Int32 × (Nat → Int32) × (Nat → Int32) × (Nat → Int64) × Int32 × Int32 × (Nat → Int32) × (Nat → Int32) × (Nat → Int32) × (Nat → Int32) × (Nat → Int32) × (Nat → Nat → Int64) × (Nat → Int32) × Int32) ⊕ (Int32 × Int32 × (Nat → Int32) × Int32 × (Nat → Int32) × (Nat → Int32) × (Nat → Int64) × Int32 × Int32 × (Nat → Int32) × (Nat → Int32) × (Nat → Int32) × (Nat → Int32) × (Nat → Int32) × (Nat → Nat → Int64) × (Nat → Int32))) :=
  match z with
  | (fc, ff, cr, hb, wl, de, wo, th, tb, tr, tg, tw, ts, tk, stk, tps, c) =>
    if rc ≤ c then some (.inr (fc, ff, cr, hb, wl, de, wo, th, tb, tr, tg, tw, ts, tk, stk, tps))
    else if 6 ≤ c then some (.inr (fc, ff, cr, hb, wl, de, wo, th, tb, tr, tg, tw, ts, tk, stk, tps))
    else if c = -1 then bnd12 (f3_fits_n fc cr hb wl de th tb tr tg tw ts tk notes nh nr nm rungs people sbr room strength weight told srg swt n) (fun v cr1 hb1 wl1 de1 th1 tb1 tr1 tg1 tw1 ts1 tk1 =>
      if v = 0 then some (.inl (fc, ff, cr1, hb1, wl1, de1, wo, th1, tb1, tr1, tg1, tw1, ts1, tk1, stk, tps, c + 1))
      else if fc = 0 then some (.inl (fc + 1, c, cr1, hb1, wl1, de1, wo, th1, tb1, tr1, tg1, tw1, ts1, tk1, stk, tps, c + 1))
      else some (.inl (fc + 1, ff, cr1, hb1, wl1, de1, wo, th1, tb1, tr1, tg1, tw1, ts1, tk1, stk, tps, c + 1)))
    else if c < 0 ∨ 6 ≤ Int32.toNatClampNeg c then none
    else if ¬ (rls (Int32.toNatClampNeg c) = some (pR (Int32.toNatClampNeg c))) then none
    else bnd15 (f3_fits fc cr hb wl de wo th tb tr tg tw ts tk notes nh nr nm rungs people sbr room strength weight told srg swt (ncF (Int32.toNatClampNeg c)) (codeF (Int32.toNatClampNeg c)) (nsF (Int32.toNatClampNeg c)) (seF (Int32.toNatClampNeg c)) (ntF (Int32.toNatClampNeg c)) (teF (Int32.toNatClampNeg c)) (stk (Int32.toNatClampNeg c)) (tps (Int32.toNatClampNeg c)) n) (fun v cr1 hb1 wl1 de1 wo1 th1 tb1 tr1 tg1 tw1 ts1 tk1 stack1 top1 =>
      if v = 0 then some (.inl (fc, ff, cr1, hb1, wl1, de1, wo1, th1, tb1, tr1, tg1, tw1, ts1, tk1, (fun j => if j = Int32.toNatClampNeg c then stack1 else stk j), upd tps (Int32.toNatClampNeg c) top1, c + 1))
      else if fc = 0 then some (.inl (fc + 1, c, cr1, hb1, wl1, de1, wo1, th1, tb1, tr1, tg1, tw1, ts1, tk1, (fun j => if j = Int32.toNatClampNeg c then stack1 else stk j), upd tps (Int32.toNatClampNeg c) top1, c + 1))
      else some (.inl (fc + 1, ff, cr1, hb1, wl1, de1, wo1, th1, tb1, tr1, tg1, tw1, ts1, tk1, (fun j => if j = Int32.toNatClampNeg c then stack1 else stk j), upd tps (Int32.toNatClampNeg c) top1, c + 1)))
def f3_tryRules (rls : Nat → Option Nat) (rc : Int32) (pR : Nat → Nat) (ncF : Nat → Nat) (codeF : Nat → Nat → Int32) (nsF : Nat → Nat) (seF : Nat → Nat → Int32) (ntF : Nat → Nat) (teF : Nat → Nat → Int32) (stk : Nat → Nat → Int64) (tps : Nat → Int32) (notes : Int32) (nh nr nm : Nat → Int32) (rungs people sbr : Int32) (room strength weight told srg swt cr : Nat → Int32) (hb : Int32) (wl de : Nat → Int32) (wo : Nat → Int64) (th tb : Int32) (tr tg tw ts tk : Nat → Int32) (n : Int32) :
    Option (Int32 × Int32 × (Nat → Int32) × Int32 × (Nat → Int32) × (Nat → Int32) × (Nat → Int64) × Int32 × Int32 × (Nat → Int32) × (Nat → Int32) × (Nat → Int32) × (Nat → Int32) × (Nat → Int32) × (Nat → Nat → Int64) × (Nat → Int32)) :=
  iter (f3_tryRules_B rls rc pR ncF codeF nsF seF ntF teF notes nh nr nm rungs people sbr room strength weight told srg swt n) FUEL ((0 : Int32), (-2 : Int32), cr, hb, wl, de, wo, th, tb, tr, tg, tw, ts, tk, stk, tps, (-1 : Int32))
def cnF (f : Nat → Int32) : Nat → Nat
  | 0 => 0
  | k + 1 => cnF f k + if f k = 0 then 0 else 1
def fsF (f : Nat → Int32) : Nat → Int32
  | 0 => -2
  | k + 1 => if f k = 0 then fsF f k else if cnF f k = 0 then hgt k else fsF f k
theorem cnF_le (f : Nat → Int32) : ∀ k, cnF f k ≤ k
  | 0 => Nat.le_refl _
  | k + 1 => by have := cnF_le f k; unfold cnF; split <;> omega
theorem cnF_mono (f : Nat → Int32) : ∀ {k j : Nat}, k ≤ j → cnF f k ≤ cnF f j := by
  intro k j h
  induction j with
  | zero => obtain rfl : k = 0 := by omega
            exact Nat.le_refl _
  | succ j ih =>
    by_cases e : k = j + 1
    · subst e; exact Nat.le_refl _
    · have := ih (by omega)
      unfold cnF
      rw [← cnF.eq_def]
      omega
theorem cnF_congr {f g : Nat → Int32} : ∀ {k : Nat}, (∀ i, i < k → f i = g i) → cnF f k = cnF g k
  | 0, _ => rfl
  | k + 1, h => by unfold cnF; rw [cnF_congr (fun i hi => h i (by omega)), h k (by omega)]
theorem fsF_congr {f g : Nat → Int32} : ∀ {k : Nat}, (∀ i, i < k → f i = g i) → fsF f k = fsF g k
  | 0, _ => rfl
  | k + 1, h => by unfold fsF; rw [fsF_congr (fun i hi => h i (by omega)), h k (by omega), cnF_congr (fun i hi => h i (by omega))]
theorem nar01 {v : Int32} (h : v = 0 ∨ v = 1) : vp_nar .boolean v = v := by
  rcases h with rfl | rfl <;> decide
theorem RowE.off {R c d c' d' : Nat} {f f' g g' : Nat → Int32} (h : RowE R f g c d) (hR : R < 10) (hc : c ≠ c') (hd : d ≠ d') (h1 : offR c' f f') (h2 : offR d' g g') : RowE R f' g' c d := by
  obtain ⟨x, hx⟩ := h
  refine ⟨x, fun i hi => ?_⟩
  obtain ⟨a, b, e⟩ := hx i hi
  have q1 : ¬ inR c' (9 * c + i) := by unfold inR; omega
  have q2 : ¬ inR d' (9 * d + i) := by unfold inR; omega
  exact ⟨a, (h1 _ q1).trans b, (h2 _ q2).trans e⟩
section
variable {S : Nat → Int32} {R P : Nat} {rungs people sbr notes fo hb bk tp th tb : Int32} {room strength weight told srg swt nh nr nm wl de wil mov sign clause clauses tr tg tw ts tk kept : Nat → Int32} {wo st wd : Nat → Int64}
/-- how the reference's loop over the candidates stands to the class's -/
theorem r_try {rls : Nat → Option Nat} {m n : Nat} {pR ncF nsF ntF : Nat → Nat} {codeF seF teF : Nat → Nat → Int32} {stk : Nat → Nat → Int64} {tps cr sn isF : Nat → Int32} (hm : m < 7) (hn : n < 61) (hI : IV R P S) (hL : RLd R P S rungs people room strength weight told) (hB : RBg R P S sbr told srg swt) (hN : RNo S notes nh nr nm)
    (hru : ∀ j, j < m → rls j = some (pR j)) (hE : ∀ j, j < m → REv (ncF j) (codeF j) (nsF j) (seF j) (ntF j) (teF j) sign clause clauses (nn j)) :
    ∃ isF1 cr1 sn1 hb1 wl1 de1 wo1 th1 tb1 tr1 tg1 tw1 ts1 tk1 stk1 tps1 st1 tp1 wd1 wi1 mo1 bk1,
      f3_tryRules rls (nn m) pR ncF codeF nsF seF ntF teF stk tps notes nh nr nm rungs people sbr room strength weight told srg swt cr hb wl de wo th tb tr tg tw ts tk (nn n) = some (nn (cnF isF1 (m + 1)), fsF isF1 (m + 1), cr1, hb1, wl1, de1, wo1, th1, tb1, tr1, tg1, tw1, ts1, tk1, stk1, tps1) ∧
      f12_fillsFits (nn m) sign clause clauses st tp wd S fo wil mov bk kept isF sn (nn n) = some (st1, tp1, wd1, S, fo, wi1, mo1, bk1, ov 62 S kept, isF1, sn1) ∧
      (∀ i, i < m + 1 → (isF1 i = 0 ∨ isF1 i = 1) ∧ (isF1 i = 1 → RowE R cr1 sn1 (cnF isF1 i) i)) := by
  have hR9 := hI.1.1
  have key := iter_twoF (B := f3_tryRules_B rls (nn m) pR ncF codeF nsF seF ntF teF notes nh nr nm rungs people sbr room strength weight told srg swt (nn n)) (C := fun (z : (Nat → Int64) × Int32 × (Nat → Int64) × (Nat → Int32) × Int32 × (Nat → Int32) × (Nat → Int32) × Int32 × (Nat → Int32) × (Nat → Int32) × Int32) => f12_fillsFits_B11 (nn m) (nn n) sign clause clauses z.1 z.2.1 z.2.2.1 z.2.2.2.1 z.2.2.2.2.1 z.2.2.2.2.2.1 z.2.2.2.2.2.2.1 z.2.2.2.2.2.2.2.1 z.2.2.2.2.2.2.2.2.1 z.2.2.2.2.2.2.2.2.2.1 z.2.2.2.2.2.2.2.2.2.2) (s := ((0 : Int32), (-2 : Int32), cr, hb, wl, de, wo, th, tb, tr, tg, tw, ts, tk, stk, tps, (-1 : Int32))) (t := (st, tp, wd, S, fo, wil, mov, bk, isF, sn, (-1 : Int32))) (n := m + 1)
    (I := fun n9 a b => ∃ k cr hb wl de wo th tb tr tg tw ts tk stk tps st tp wd T f wil mov bk isF sn, n9 + k = m + 1 ∧ a = (nn (cnF isF k), fsF isF k, cr, hb, wl, de, wo, th, tb, tr, tg, tw, ts, tk, stk, tps, hgt k) ∧ b = (st, tp, wd, T, f, wil, mov, bk, isF, sn, hgt k) ∧ IV R P T ∧ St S T ∧ ∀ i, i < k → (isF i = 0 ∨ isF i = 1) ∧ (isF i = 1 → RowE R cr sn (cnF isF i) i))
    (Po := fun a b => ∃ cr hb wl de wo th tb tr tg tw ts tk stk tps st tp wd T f wil mov bk isF sn, a = (nn (cnF isF (m + 1)), fsF isF (m + 1), cr, hb, wl, de, wo, th, tb, tr, tg, tw, ts, tk, stk, tps) ∧ b = (st, tp, wd, T, f, wil, mov, bk, isF, sn) ∧ IV R P T ∧ St S T ∧ ∀ i, i < m + 1 → (isF i = 0 ∨ isF i = 1) ∧ (isF i = 1 → RowE R cr sn (cnF isF i) i))
    ⟨0, cr, hb, wl, de, wo, th, tb, tr, tg, tw, ts, tk, stk, tps, st, tp, wd, S, fo, wil, mov, bk, isF, sn, rfl, by rw [hgt_0]; rfl, by rw [hgt_0], hI, St.rf, fun i hi => absurd hi (Nat.not_lt_zero _)⟩ (by omega)
    (by
      rintro n9 a b ⟨k, cr, hb, wl, de, wo, th, tb, tr, tg, tw, ts, tk, stk, tps, st, tp, wd, T, f, wil, mov, bk, isF, sn, hk, rfl, rfl, hIT, hST, hF⟩
      dsimp only
      unfold f3_tryRules_B f12_fillsFits_B11
      dsimp only
      have hcn := cnF_le isF k
      by_cases hkm : k < m + 1
      · left
        have hLT := hL.st hST hR9
        have hNT := hN.cells hST
        have hBT : RBg R P T sbr told srg swt := by
          obtain ⟨⟨b, g1, g2, g3, g4, g5⟩, g6, g7⟩ := hB
          refine ⟨⟨b, g1, g2, (hST.2.2.2 _ (by omega)).trans g3, g4, fun p hp => ?_⟩, fun p hp => ?_, g7⟩
          · obtain ⟨r, a1, a2, a3⟩ := g5 p hp
            exact ⟨r, a1, (hST.2.2.2 _ (by omega)).trans a2, a3⟩
          · obtain ⟨a1, a2, a3, w, a4, a5⟩ := g6 p hp
            exact ⟨a1.trans (hST.2.2.2 _ (by omega)).symm, a2.trans (hST.2.2.2 _ (by omega)).symm, a3.trans (hST.2.2.2 _ (by omega)).symm, w, a4, (hST.2.2.2 _ (by omega)).trans a5⟩
        have hm1 : ¬ nn m ≤ hgt k := by rw [← hgt_succ, hgt_le _ (by omega) _ (by omega)]; omega
        have h61 : ¬ (6 : Int32) ≤ hgt k := by rw [show (6 : Int32) = hgt 7 by decide, hgt_le _ (by omega) _ (by omega)]; omega
        have hk1 : hgt k + 1 = hgt (k + 1) := by rw [hgt_add, hgt_succ]
        have hk2 : hgt k + 1 = nn k := hgt_add k
        have fin : ∀ (v : Int32) (cr1 : Nat → Int32) (hb1 : Int32) (wl1 de1 : Nat → Int32) (wo1 : Nat → Int64) (th1 tb1 : Int32) (tr1 tg1 tw1 ts1 tk1 : Nat → Int32) (stk1 : Nat → Nat → Int64) (tps1 : Nat → Int32) (st1 : Nat → Int64) (tp1 : Int32) (wd1 : Nat → Int64) (T0 S1 wi1 mo1 : Nat → Int32) (bk1 : Int32) (sn1 : Nat → Int32),
            f12_begins T = some T0 → iter (fitB n (hgt k) sign clause clauses) FUEL (st, tp, wd, T0, wil, mov, bk, sn, (1 : Int32), (0 : Int32)) = some (st1, tp1, wd1, S1, wi1, mo1, bk1, sn1, v) → IV R P S1 → St T S1 → offR k sn sn1 → offR (cnF isF k) cr cr1 → (v = 0 ∨ (v = 1 ∧ RowE R cr1 sn1 (cnF isF k) k)) →
            ∃ s' t' m9, (if v = 0 then some (.inl (nn (cnF isF k), fsF isF k, cr1, hb1, wl1, de1, wo1, th1, tb1, tr1, tg1, tw1, ts1, tk1, stk1, tps1, hgt k + 1)) else if nn (cnF isF k) = 0 then some (.inl (nn (cnF isF k) + 1, hgt k, cr1, hb1, wl1, de1, wo1, th1, tb1, tr1, tg1, tw1, ts1, tk1, stk1, tps1, hgt k + 1)) else some (.inl (nn (cnF isF k) + 1, fsF isF k, cr1, hb1, wl1, de1, wo1, th1, tb1, tr1, tg1, tw1, ts1, tk1, stk1, tps1, hgt k + 1)) : Option ((Int32 × Int32 × (Nat → Int32) × Int32 × (Nat → Int32) × (Nat → Int32) × (Nat → Int64) × Int32 × Int32 × (Nat → Int32) × (Nat → Int32) × (Nat → Int32) × (Nat → Int32) × (Nat → Int32) × (Nat → Nat → Int64) × (Nat → Int32) × Int32) ⊕ (Int32 × Int32 × (Nat → Int32) × Int32 × (Nat → Int32) × (Nat → Int32) × (Nat → Int64) × Int32 × Int32 × (Nat → Int32) × (Nat → Int32) × (Nat → Int32) × (Nat → Int32) × (Nat → Int32) × (Nat → Nat → Int64) × (Nat → Int32)))) = some (.inl s') ∧
              (if nn m ≤ hgt k then some (.inr (st, tp, wd, T, f, wil, mov, bk, isF, sn)) else bnd1 (f12_begins T) (fun T0 => bnd9 (iter (fitB n (hgt k) sign clause clauses) FUEL (st, tp, wd, T0, wil, mov, bk, sn, (1 : Int32), (0 : Int32))) (fun st1 tp1 wd1 S1 wi1 mo1 bk1 sn1 v => if hgt k + 1 < 0 ∨ 7 ≤ Int32.toNatClampNeg (hgt k + 1) then none else lt (upd isF (Int32.toNatClampNeg (hgt k + 1)) (vp_nar .boolean v)) (fun isF1 => lt (hgt k + 1) (fun c1 => some (.inl (st1, tp1, wd1, S1, hgt k, wi1, mo1, bk1, isF1, sn1, c1)))))) : Option (((Nat → Int64) × Int32 × (Nat → Int64) × (Nat → Int32) × Int32 × (Nat → Int32) × (Nat → Int32) × Int32 × (Nat → Int32) × (Nat → Int32) × Int32) ⊕ ((Nat → Int64) × Int32 × (Nat → Int64) × (Nat → Int32) × Int32 × (Nat → Int32) × (Nat → Int32) × Int32 × (Nat → Int32) × (Nat → Int32)))) = some (.inl t') ∧ m9 < n9 ∧
              (∃ k cr hb wl de wo th tb tr tg tw ts tk stk tps st tp wd T f wil mov bk isF sn, m9 + k = m + 1 ∧ s' = (nn (cnF isF k), fsF isF k, cr, hb, wl, de, wo, th, tb, tr, tg, tw, ts, tk, stk, tps, hgt k) ∧ t' = (st, tp, wd, T, f, wil, mov, bk, isF, sn, hgt k) ∧ IV R P T ∧ St S T ∧ ∀ i, i < k → (isF i = 0 ∨ isF i = 1) ∧ (isF i = 1 → RowE R cr sn (cnF isF i) i)) := by
          intro v cr1 hb1 wl1 de1 wo1 th1 tb1 tr1 tg1 tw1 ts1 tk1 stk1 tps1 st1 tp1 wd1 T0 S1 wi1 mo1 bk1 sn1 g1 g2 g3 g4 g5 g6 g7
          have hv01 : v = 0 ∨ v = 1 := g7.elim Or.inl (fun h => Or.inr h.1)
          have hcg : ∀ i, i < k → (upd isF k v) i = isF i := fun i hi => upd_ne (by omega)
          have hc1 : ∀ i, i ≤ k → cnF (upd isF k v) i = cnF isF i := fun i hi => cnF_congr (fun q hq => hcg q (by omega))
          have hf1 : fsF (upd isF k v) k = fsF isF k := fsF_congr hcg
          have hrows : ∀ i, i < k + 1 → ((upd isF k v) i = 0 ∨ (upd isF k v) i = 1) ∧ ((upd isF k v) i = 1 → RowE R cr1 sn1 (cnF (upd isF k v) i) i) := by
            intro i hi
            by_cases e : i = k
            · subst e
              rw [upd_at, hc1 i (Nat.le_refl _)]
              refine ⟨hv01, fun h => ?_⟩
              rcases g7 with h2 | ⟨_, h2⟩
              · rw [h2] at h; exact absurd h (by decide)
              · exact h2
            · rw [hcg i (by omega), hc1 i (by omega)]
              obtain ⟨x1, x2⟩ := hF i (by omega)
              refine ⟨x1, fun h => ?_⟩
              have hlt : cnF isF i < cnF isF k := by
                have h1 : cnF isF (i + 1) = cnF isF i + 1 := by
                  show cnF isF i + (if isF i = 0 then 0 else 1) = _
                  rw [h, if_neg (by decide)]
                have h2 := cnF_mono isF (show i + 1 ≤ k by omega)
                omega
              exact (x2 h).off hR9 (by omega) e g6 g5
          rw [if_neg hm1, g1, bnd1_s, g2, bnd9_s, hk2, nn_nat (by omega), if_neg (ng (by omega) (by omega)), lt_df, lt_df, nar01 hv01, ← hgt_succ k]
          rcases hv01 with rfl | rfl
          · rw [if_pos rfl]
            refine ⟨_, _, n9 - 1, rfl, rfl, by omega, k + 1, cr1, hb1, wl1, de1, wo1, th1, tb1, tr1, tg1, tw1, ts1, tk1, stk1, tps1, st1, tp1, wd1, S1, hgt k, wi1, mo1, bk1, upd isF k 0, sn1, by omega, ?_, rfl, g3, hST.tr g4, hrows⟩
            have e1 : cnF (upd isF k 0) (k + 1) = cnF isF k := by
              show cnF (upd isF k 0) k + (if upd isF k 0 k = 0 then 0 else 1) = _
              rw [upd_at, if_pos rfl, hc1 k (Nat.le_refl _)]; rfl
            have e2 : fsF (upd isF k 0) (k + 1) = fsF isF k := by
              show (if upd isF k 0 k = 0 then fsF (upd isF k 0) k else _) = _
              rw [upd_at, if_pos rfl, hf1]
            rw [e1, e2]
          · have e1 : cnF (upd isF k 1) (k + 1) = cnF isF k + 1 := by
              show cnF (upd isF k 1) k + (if upd isF k 1 k = 0 then 0 else 1) = _
              rw [upd_at, if_neg (by decide), hc1 k (Nat.le_refl _)]
            have e2 : fsF (upd isF k 1) (k + 1) = if cnF isF k = 0 then hgt k else fsF isF k := by
              show (if upd isF k 1 k = 0 then fsF (upd isF k 1) k else if cnF (upd isF k 1) k = 0 then hgt k else fsF (upd isF k 1) k) = _
              rw [upd_at, if_neg (by decide), hf1, hc1 k (Nat.le_refl _)]
            rw [if_neg (show ¬ (1 : Int32) = 0 by decide), nn_succ]
            by_cases h0 : cnF isF k = 0
            · rw [if_pos (show nn (cnF isF k) = 0 by rw [h0]; rfl)]
              refine ⟨_, _, n9 - 1, rfl, rfl, by omega, k + 1, cr1, hb1, wl1, de1, wo1, th1, tb1, tr1, tg1, tw1, ts1, tk1, stk1, tps1, st1, tp1, wd1, S1, hgt k, wi1, mo1, bk1, upd isF k 1, sn1, by omega, ?_, rfl, g3, hST.tr g4, hrows⟩
              rw [e1, e2, if_pos h0]
            · rw [if_neg (nn0 (by omega) (by omega))]
              refine ⟨_, _, n9 - 1, rfl, rfl, by omega, k + 1, cr1, hb1, wl1, de1, wo1, th1, tb1, tr1, tg1, tw1, ts1, tk1, stk1, tps1, st1, tp1, wd1, S1, hgt k, wi1, mo1, bk1, upd isF k 1, sn1, by omega, ?_, rfl, g3, hST.tr g4, hrows⟩
              rw [e1, e2, if_neg h0]
        rw [if_neg hm1, if_neg h61]
        by_cases hk0 : k = 0
        · subst hk0
          obtain ⟨v, cr1, hb1, wl1, de1, th1, tb1, tr1, tg1, tw1, ts1, tk1, st1, tp1, wd1, T0, S1, wi1, mo1, bk1, sn1, j1, j2, j3, j4, j5, j6, j7⟩ := r_fits_n (c := cnF isF 0) (d := 0) (fo := hgt 0) (cr := cr) (hb := hb) (wl := wl) (de := de) (th := th) (tb := tb) (tr := tr) (tg := tg) (tw := tw) (ts := ts) (tk := tk) (st := st) (tp := tp) (wd := wd) (wil := wil) (mov := mov) (bk := bk) (sn := sn) (sign := sign) (clause := clause) (clauses := clauses) (by omega) (by omega) (hgt_add 0) hn hIT hLT hBT hNT (by decide)
          have := fin v cr1 hb1 wl1 de1 wo th1 tb1 tr1 tg1 tw1 ts1 tk1 stk tps st1 tp1 wd1 T0 S1 wi1 mo1 bk1 sn1 j2 j3 j4.1 j4.2 j5 j6 j7
          rw [if_pos hgt_0, j1, bnd12_s]
          exact this
        · obtain ⟨j, rfl⟩ : ∃ j, k = j + 1 := ⟨k - 1, by omega⟩
          have hc : Int32.toNatClampNeg (hgt (j + 1)) = j := by rw [hgt_succ, nn_nat (by omega)]
          have hnb : ¬ (hgt (j + 1) < 0 ∨ 6 ≤ j) := by rw [hgt_succ]; exact ng (by omega) (by omega)
          have hEj := hE j (by omega)
          rw [← hgt_succ] at hEj
          obtain ⟨v, cr1, hb1, wl1, de1, wo1, th1, tb1, tr1, tg1, tw1, ts1, tk1, stack1, top1, st1, tp1, wd1, T0, S1, wi1, mo1, bk1, sn1, j1, j2, j3, j4, j5, j6, j7⟩ := r_fits (c := cnF isF (j + 1)) (d := j + 1) (fo := hgt (j + 1)) (cr := cr) (hb := hb) (wl := wl) (de := de) (wo := wo) (th := th) (tb := tb) (tr := tr) (tg := tg) (tw := tw) (ts := ts) (tk := tk) (stack := stk j) (top := tps j) (st := st) (tp := tp) (wd := wd) (wil := wil) (mov := mov) (bk := bk) (sn := sn) (by omega) (by omega) (hgt_add _) hn hIT hLT hBT hNT (by rw [hgt_succ]; exact nlt0 (by omega)) hEj
          have := fin v cr1 hb1 wl1 de1 wo1 th1 tb1 tr1 tg1 tw1 ts1 tk1 (fun i => if i = j then stack1 else stk i) (upd tps j top1) st1 tp1 wd1 T0 S1 wi1 mo1 bk1 sn1 j2 j3 j4.1 j4.2 j5 j6 j7
          rw [if_neg (show ¬ hgt (j + 1) = -1 by rw [hgt_succ]; exact nn_ne_m1 (by omega)), hc, if_neg hnb, if_neg (fun h => h (hru j (by omega))), j1, bnd15_s]
          exact this
      · right
        obtain rfl : k = m + 1 := by omega
        rw [if_pos (show nn m ≤ hgt (m + 1) by rw [hgt_succ]; exact Int32.le_refl _), if_pos (show nn m ≤ hgt (m + 1) by rw [hgt_succ]; exact Int32.le_refl _)]
        exact ⟨_, _, rfl, rfl, cr, hb, wl, de, wo, th, tb, tr, tg, tw, ts, tk, stk, tps, st, tp, wd, T, f, wil, mov, bk, isF, sn, rfl, rfl, hIT, hST, hF⟩)
  obtain ⟨a, b, e1, e2, cr1, hb1, wl1, de1, wo1, th1, tb1, tr1, tg1, tw1, ts1, tk1, stk1, tps1, st1, tp1, wd1, T, f, wi1, mo1, bk1, isF1, sn1, rfl, rfl, hIT, hST, hF⟩ := key
  refine ⟨isF1, cr1, sn1, hb1, wl1, de1, wo1, th1, tb1, tr1, tg1, tw1, ts1, tk1, stk1, tps1, st1, tp1, wd1, wi1, mo1, bk1, e1, ?_, hF⟩
  unfold f12_fillsFits
  rw [m_keeps, bnd1_s, e2, bnd10_s, hST.back, bnd1_s]
end
