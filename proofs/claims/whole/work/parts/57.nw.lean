/-! ruled, look -/
def f11_ruled (rls : Nat → Option Nat) (rc : Int32) (pR : Nat → Nat) (ncF : Nat → Nat) (codeF : Nat → Nat → Int32) (nsF : Nat → Nat) (seF : Nat → Nat → Int32) (ntF : Nat → Nat) (teF : Nat → Nat → Int32) (stk : Nat → Nat → Int64) (tps : Nat → Int32) (notes : Int32) (nh nr nm : Nat → Int32) (rungs people sbr : Int32) (room strength weight told srg swt : Nat → Int32) (fc ff : Int32) (cr : Nat → Int32) (hb : Int32) (wl de : Nat → Int32) (wo : Nat → Int64) (th tb : Int32) (tr tg tw ts tk : Nat → Int32) (a1 : Int32) :
    Option (Int32 × Int32 × Int32 × (Nat → Int32) × Int32 × (Nat → Int32) × (Nat → Int32) × (Nat → Int64) × Int32 × Int32 × (Nat → Int32) × (Nat → Int32) × (Nat → Int32) × (Nat → Int32) × (Nat → Int32) × (Nat → Nat → Int64) × (Nat → Int32)) :=
  bnd1 (f11_hasLadder rungs) (fun r_1 =>
  if r_1 = 0 then some (-3, fc, ff, cr, hb, wl, de, wo, th, tb, tr, tg, tw, ts, tk, stk, tps)
  else if a1 < 0 then some (-3, fc, ff, cr, hb, wl, de, wo, th, tb, tr, tg, tw, ts, tk, stk, tps)
  else if a1 ≤ 1 then bnd16 (f3_tryRules rls rc pR ncF codeF nsF seF ntF teF stk tps notes nh nr nm rungs people sbr room strength weight told srg swt cr hb wl de wo th tb tr tg tw ts tk 0) (fun fc1 ff1 cr1 hb1 wl1 de1 wo1 th1 tb1 tr1 tg1 tw1 ts1 tk1 stk1 tps1 =>
    if a1 = 0 then some (fc1, fc1, ff1, cr1, hb1, wl1, de1, wo1, th1, tb1, tr1, tg1, tw1, ts1, tk1, stk1, tps1) else some (ff1, fc1, ff1, cr1, hb1, wl1, de1, wo1, th1, tb1, tr1, tg1, tw1, ts1, tk1, stk1, tps1))
  else some (-3, fc, ff, cr, hb, wl, de, wo, th, tb, tr, tg, tw, ts, tk, stk, tps))
def f11_look (rls : Nat → Option Nat) (rc : Int32) (pR : Nat → Nat) (ncF : Nat → Nat) (codeF : Nat → Nat → Int32) (nsF : Nat → Nat) (seF : Nat → Nat → Int32) (ntF : Nat → Nat) (teF : Nat → Nat → Int32) (stk : Nat → Nat → Int64) (tps : Nat → Int32) (notes : Int32) (nh nr nm : Nat → Int32) (rungs people sbr : Int32) (room strength weight told srg swt : Nat → Int32) (fc ff pr ma : Int32) (cr : Nat → Int32) (hb : Int32) (wl de : Nat → Int32) (wo : Nat → Int64) (th tb : Int32) (tr tg tw ts tk : Nat → Int32) (a1 a2 : Int32) :
    Option (Int32 × Int32 × Int32 × Int32 × Int32 × (Nat → Int32) × Int32 × (Nat → Int32) × (Nat → Int32) × (Nat → Int64) × Int32 × Int32 × (Nat → Int32) × (Nat → Int32) × (Nat → Int32) × (Nat → Int32) × (Nat → Int32) × (Nat → Nat → Int64) × (Nat → Int32)) :=
  bnd1 (f11_hasLadder rungs) (fun r_1 =>
  if r_1 = 0 then some (-1, fc, ff, pr, ma, cr, hb, wl, de, wo, th, tb, tr, tg, tw, ts, tk, stk, tps)
  else if a1 < 0 then some (-1, fc, ff, pr, ma, cr, hb, wl, de, wo, th, tb, tr, tg, tw, ts, tk, stk, tps)
  else if 60 < a1 then some (-1, fc, ff, pr, ma, cr, hb, wl, de, wo, th, tb, tr, tg, tw, ts, tk, stk, tps)
  else if a2 < 0 then some (-1, fc, ff, pr, ma, cr, hb, wl, de, wo, th, tb, tr, tg, tw, ts, tk, stk, tps)
  else if a2 ≤ 1 then bnd16 (f3_tryRules rls rc pR ncF codeF nsF seF ntF teF stk tps notes nh nr nm rungs people sbr room strength weight told srg swt cr hb wl de wo th tb tr tg tw ts tk a1) (fun fc1 ff1 cr1 hb1 wl1 de1 wo1 th1 tb1 tr1 tg1 tw1 ts1 tk1 stk1 tps1 =>
    if fc1 = 0 then some (-2, fc1, ff1, pr, ma, cr1, hb1, wl1, de1, wo1, th1, tb1, tr1, tg1, tw1, ts1, tk1, stk1, tps1)
    else bnd2 (f3_findPartingRung fc1 pr ma cr1 rungs) (fun pr1 ma1 =>
      if a2 = 0 then some (pr1, fc1, ff1, pr1, ma1, cr1, hb1, wl1, de1, wo1, th1, tb1, tr1, tg1, tw1, ts1, tk1, stk1, tps1) else some (ma1, fc1, ff1, pr1, ma1, cr1, hb1, wl1, de1, wo1, th1, tb1, tr1, tg1, tw1, ts1, tk1, stk1, tps1)))
  else some (-1, fc, ff, pr, ma, cr, hb, wl, de, wo, th, tb, tr, tg, tw, ts, tk, stk, tps))
theorem hgt_m (j : Nat) : nn j + (-1 : Int32) = hgt j := by
  unfold hgt
  rw [Int32.sub_eq_add_neg]
theorem fs0 {f : Nat → Int32} : ∀ {k : Nat}, cnF f k = 0 → fsF f k = -2
  | 0, _ => rfl
  | k + 1, h => by
    unfold cnF at h
    unfold fsF
    by_cases e : f k = 0
    · rw [if_pos e]; exact fs0 (by omega)
    · rw [if_neg e] at h; omega
theorem m_ruled36 {isF : Nat → Int32} {m : Nat} (hm : m < 7) : iter (fun (z : Int32 × Int32 × Int32) => f12_ruled_B36 isF z.1 z.2.1 z.2.2) FUEL ((0 : Int32), (-2 : Int32), nn m) = some (nn (cnF isF (m + 1)), fsF isF (m + 1)) := by
  have key := iter_wfF (B := fun (z : Int32 × Int32 × Int32) => f12_ruled_B36 isF z.1 z.2.1 z.2.2) (s := ((0 : Int32), (-2 : Int32), nn m)) (n := m + 1)
    (I := fun j z => ∃ c v, j ≤ m + 1 ∧ z = (nn c, v, hgt j) ∧ cnF isF (m + 1) = cnF isF j + c ∧ fsF isF (m + 1) = if cnF isF j = 0 then v else fsF isF j)
    (Po := fun z => z = (nn (cnF isF (m + 1)), fsF isF (m + 1)))
    ⟨0, -2, Nat.le_refl _, by rw [hgt_succ]; rfl, rfl, by
      split
      · next h => exact fs0 h
      · rfl⟩ (by omega)
    (by
      rintro j z ⟨c, v, hj, rfl, h1, h2⟩
      dsimp only
      unfold f12_ruled_B36
      cases j with
      | zero =>
        right
        rw [if_pos (by decide)]
        refine ⟨_, rfl, ?_⟩
        rw [h2, if_pos (show cnF isF 0 = 0 from rfl), h1]
        show (nn c, v) = (nn (0 + c), v)
        rw [Nat.zero_add]
      | succ j =>
        left
        have hd : cnF isF (j + 1) = cnF isF j + (if isF j = 0 then 0 else 1) := rfl
        have hs : fsF isF (j + 1) = if isF j = 0 then fsF isF j else if cnF isF j = 0 then hgt j else fsF isF j := rfl
        rw [hgt_succ, if_neg (nlt0 (by omega)), nn_nat (by omega), if_neg (ng (by omega) (by omega))]
        by_cases e : isF j = 0
        · rw [if_pos e] at hd hs
          rw [if_pos e, lt_df, hgt_m]
          refine ⟨_, j, rfl, by omega, c, v, by omega, rfl, by omega, ?_⟩
          rw [h2, hd, hs]; rfl
        · rw [if_neg e] at hd hs
          rw [if_neg e, lt_df, lt_df, lt_df, hgt_m, nn_succ]
          refine ⟨_, j, rfl, by omega, c + 1, hgt j, by omega, rfl, by omega, ?_⟩
          rw [h2, if_neg (by omega), hs])
  obtain ⟨z, e, rfl⟩ := key
  exact e
def NF (isF sn : Nat → Int32) (r : Nat) (x : Int32) : Nat → Nat
  | 0 => 0
  | b + 1 => NF isF sn r x b + if isF b = 0 then 0 else if x = sn (9 * b + r) then 1 else 0
def CF (cr : Nat → Int32) (r : Nat) (x : Int32) : Nat → Nat
  | 0 => 0
  | b + 1 => CF cr r x b + if cr (9 * b + r) = x then 1 else 0
def mxF (g : Nat → Nat) : Nat → Nat
  | 0 => 0
  | k + 1 => max (mxF g k) (g k)
theorem NF_le (isF sn : Nat → Int32) (r : Nat) (x : Int32) : ∀ b, NF isF sn r x b ≤ b
  | 0 => Nat.le_refl _
  | b + 1 => by
    have := NF_le isF sn r x b
    unfold NF
    split
    · omega
    · split <;> omega
theorem CF_le (cr : Nat → Int32) (r : Nat) (x : Int32) : ∀ b, CF cr r x b ≤ b
  | 0 => Nat.le_refl _
  | b + 1 => by
    have := CF_le cr r x b
    unfold CF
    split <;> omega
theorem NF_pos {isF sn : Nat → Int32} {r : Nat} {x : Int32} : ∀ {b : Nat}, 0 < NF isF sn r x b → ∃ i, i < b ∧ ¬ isF i = 0 ∧ x = sn (9 * i + r)
  | b + 1, h => by
    unfold NF at h
    by_cases e : isF b = 0
    · rw [if_pos e] at h
      obtain ⟨i, h1, h2⟩ := NF_pos (b := b) (by omega)
      exact ⟨i, by omega, h2⟩
    · rw [if_neg e] at h
      by_cases e2 : x = sn (9 * b + r)
      · exact ⟨b, by omega, e, e2⟩
      · rw [if_neg e2] at h
        obtain ⟨i, h1, h2⟩ := NF_pos (b := b) (by omega)
        exact ⟨i, by omega, h2⟩
theorem NF_one {isF sn : Nat → Int32} {r : Nat} {x : Int32} : ∀ {b i : Nat}, i < b → ¬ isF i = 0 → x = sn (9 * i + r) → 0 < NF isF sn r x b
  | b + 1, i, hi, h1, h2 => by
    unfold NF
    by_cases e : i = b
    · subst e
      rw [if_neg h1, if_pos h2]; omega
    · have := NF_one (b := b) (i := i) (by omega) h1 h2
      omega
theorem NC {R r m : Nat} {isF cr sn : Nat → Int32} {x : Int32} (hr : r < R) : ∀ {j : Nat}, (∀ i, i < j → (isF i = 0 ∨ isF i = 1) ∧ (isF i = 1 → RowE R cr sn (cnF isF i) i)) → NF isF sn r x j = CF cr r x (cnF isF j)
  | 0, _ => rfl
  | j + 1, h => by
    have ih := NC (r := r) (m := m) (x := x) hr (j := j) (fun i hi => h i (by omega))
    obtain ⟨h1, h2⟩ := h j (by omega)
    unfold NF
    show _ = CF cr r x (cnF isF j + (if isF j = 0 then 0 else 1))
    rw [ih]
    rcases h1 with e | e
    · rw [if_pos e, if_pos e]; rfl
    · obtain ⟨g, hg⟩ := h2 e
      obtain ⟨-, g1, g2⟩ := hg r hr
      rw [e, if_neg (show ¬ (1 : Int32) = 0 by decide), if_neg (show ¬ (1 : Int32) = 0 by decide)]
      show _ = CF cr r x (cnF isF j) + (if cr (9 * cnF isF j + r) = x then 1 else 0)
      rw [g1, g2]
      by_cases e2 : x = nn (g r)
      · rw [if_pos e2, if_pos e2.symm]
      · rw [if_neg e2, if_neg (fun h => e2 h.symm)]
theorem mxF_ub {g : Nat → Nat} {M : Nat} : ∀ {n : Nat}, (∀ i, i < n → g i ≤ M) → mxF g n ≤ M
  | 0, _ => Nat.zero_le _
  | n + 1, h => Nat.max_le.mpr ⟨mxF_ub (fun i hi => h i (by omega)), h n (by omega)⟩
theorem le_mxF {g : Nat → Nat} : ∀ {n i : Nat}, i < n → g i ≤ mxF g n
  | n + 1, i, h => by
    by_cases e : i = n
    · subst e; exact Nat.le_max_right _ _
    · exact Nat.le_trans (le_mxF (by omega)) (Nat.le_max_left _ _)
/-- the biggest group on a rung, as the class counts it -/
def alC (cr : Nat → Int32) (fc r : Nat) : Nat := mxF (fun v => CF cr r (nn v) fc) 5
def alM (isF sn : Nat → Int32) (m r : Nat) : Nat := mxF (fun a => if isF a = 0 then 0 else NF isF sn r (sn (9 * a + r)) (m + 1)) (m + 1)
theorem al_eq {R r m : Nat} {isF cr sn : Nat → Int32} (hr : r < R) (h : ∀ i, i < m + 1 → (isF i = 0 ∨ isF i = 1) ∧ (isF i = 1 → RowE R cr sn (cnF isF i) i)) : alC cr (cnF isF (m + 1)) r = alM isF sn m r := by
  refine Nat.le_antisymm (mxF_ub (fun v hv => ?_)) (mxF_ub (fun a ha => ?_))
  · show CF cr r (nn v) (cnF isF (m + 1)) ≤ _
    rw [← NC (m := m) hr h]
    rcases Nat.eq_zero_or_pos (NF isF sn r (nn v) (m + 1)) with e | e
    · rw [e]; exact Nat.zero_le _
    · obtain ⟨i, h1, h2, h3⟩ := NF_pos e
      have := le_mxF (g := fun a => if isF a = 0 then 0 else NF isF sn r (sn (9 * a + r)) (m + 1)) h1
      rw [if_neg h2, ← h3] at this
      exact this
  · show (if isF a = 0 then 0 else NF isF sn r (sn (9 * a + r)) (m + 1)) ≤ _
    by_cases e : isF a = 0
    · rw [if_pos e]; exact Nat.zero_le _
    · rw [if_neg e]
      obtain ⟨h1, h2⟩ := h a ha
      obtain ⟨g, hg⟩ := h2 (h1.resolve_left e)
      obtain ⟨g0, -, g2⟩ := hg r hr
      rw [g2, NC (m := m) hr h]
      exact le_mxF (g := fun v => CF cr r (nn v) (cnF isF (m + 1))) g0
theorem al_pos {r m : Nat} {isF sn : Nat → Int32} (h : 0 < cnF isF (m + 1)) : 0 < alM isF sn m r := by
  have hex : ∀ k, 0 < cnF isF k → ∃ i, i < k ∧ ¬ isF i = 0 := by
    intro k
    induction k with
    | zero => intro h; exact absurd h (Nat.lt_irrefl _)
    | succ k ih =>
      intro h
      by_cases e : isF k = 0
      · have hd : cnF isF (k + 1) = cnF isF k + (if isF k = 0 then 0 else 1) := rfl
        rw [if_pos e] at hd
        obtain ⟨i, h1, h2⟩ := ih (by omega)
        exact ⟨i, by omega, h2⟩
      · exact ⟨k, by omega, e⟩
  obtain ⟨i, h1, h2⟩ := hex _ h
  have := le_mxF (g := fun a => if isF a = 0 then 0 else NF isF sn r (sn (9 * a + r)) (m + 1)) h1
  rw [if_neg h2] at this
  exact Nat.lt_of_lt_of_le (NF_one h1 h2 rfl) this
theorem al_0 {r m : Nat} {isF sn : Nat → Int32} (h : cnF isF (m + 1) = 0) : alM isF sn m r = 0 := by
  refine Nat.le_zero.mp (mxF_ub (fun a ha => ?_))
  have h2 := cnF_mono isF (show a + 1 ≤ m + 1 by omega)
  have hd : cnF isF (a + 1) = cnF isF a + (if isF a = 0 then 0 else 1) := rfl
  by_cases e : isF a = 0
  · rw [if_pos e]; exact Nat.le_refl _
  · rw [if_neg e] at hd; omega
theorem al_le {r m : Nat} {isF sn : Nat → Int32} : alM isF sn m r ≤ m + 1 := mxF_ub (fun a _ => by
  split
  · exact Nat.zero_le _
  · exact NF_le _ _ _ _ _)
theorem nn_max {a b : Nat} (ha : a < 2147483648) (hb : b < 2147483648) : (if nn a < nn b then nn b else nn a) = nn (max a b) := by
  by_cases h : a < b
  · rw [if_pos (nltT ha hb h), Nat.max_eq_right (by omega)]
  · rw [if_neg (nlt ha hb h), Nat.max_eq_left (by omega)]
theorem c_largest {cr : Nat → Int32} {fc r : Nat} (hfc : fc < 8) (hr : r < 9) : f3_largestGroup (nn fc) cr (nn r) = some (nn (alC cr fc r)) := by
  have h15 : ∀ v : Int32, iter (fun (z : Int32 × Int32) => f3_largestGroup_B15 (nn fc) (nn r) cr v z.1 z.2) FUEL ((0 : Int32), (0 : Int32)) = some (nn (CF cr r v fc)) := by
    intro v
    rw [iter_for (s := ((0 : Int32), (0 : Int32))) (st := fun k => (nn (CF cr r v k), nn k)) (n := fc) (out := nn (CF cr r v fc)) rfl (by omega) ?hs ?he]
    case hs =>
      intro k hk
      have e : nn k * 9 + nn r = nn (9 * k + r) := by rw [show (9 : Int32) = nn 9 from rfl, nn_mul, nn_add, Nat.mul_comm]
      unfold f3_largestGroup_B15
      dsimp only
      rw [if_neg (nle (by omega) (by omega) (by omega)), if_neg (show ¬ (7 : Int32) ≤ nn k from nle (a := 7) (by omega) (by omega) (by omega)), e, nn_nat (by omega), if_neg (ng (by omega) (by omega)), lt_df, lt_df, lt_df, lt_df, nn_succ, nn_succ]
      show _ = some (Sum.inl (nn (CF cr r v k + (if cr (9 * k + r) = v then 1 else 0)), nn (k + 1)))
      by_cases e2 : cr (9 * k + r) = v
      · rw [if_pos e2, if_pos e2]
      · rw [if_neg e2, if_neg e2]; rfl
    case he =>
      unfold f3_largestGroup_B15
      dsimp only
      rw [if_pos (Int32.le_refl _)]
  unfold f3_largestGroup
  rw [iter_for (s := ((0 : Int32), (0 : Int32))) (st := fun k => (nn (mxF (fun v => CF cr r (nn v) fc) k), nn k)) (n := 5) (out := nn (alC cr fc r)) rfl (by omega) ?hs ?he]
  · exact bnd1_s _ _
  case hs =>
    intro k hk
    have b1 := CF_le cr r (nn k) fc
    have b2 : mxF (fun v => CF cr r (nn v) fc) k ≤ fc := mxF_ub (fun i _ => CF_le _ _ _ _)
    unfold f3_largestGroup_B4
    dsimp only
    rw [if_neg (show ¬ (4 : Int32) < nn k from nlt (a := 4) (by omega) (by omega) (by omega)), h15, bnd1_s, lt_df, lt_df, nn_succ, nn_max (by omega) (by omega)]
    rfl
  case he =>
    unfold f3_largestGroup_B4
    dsimp only
    rw [if_pos (show (4 : Int32) < nn 5 by decide)]
    rfl
theorem m_alike {isF sn : Nat → Int32} {m r : Nat} (hm : m < 7) (hr : r < 9) : f12_alikeAt (nn m) isF sn (nn r) = some (nn (alM isF sn m r)) := by
  have ix : ∀ k, k < 7 → (9 : Int32) * nn k + nn r = nn (9 * k + r) := fun k _ => by rw [show (9 : Int32) = nn 9 from rfl, nn_mul, nn_add]
  have h18 : ∀ a, a < m + 1 → a < 7 → ¬ isF a = 0 → iter (fun (z : Int32 × Int32) => f12_alikeAt_B18 (nn m) (nn a) isF (nn r) sn z.1 z.2) FUEL ((0 : Int32), (0 : Int32)) = some (nn (NF isF sn r (sn (9 * a + r)) (m + 1))) := by
    intro a ha ha7 hf
    rw [iter_for (s := ((0 : Int32), (0 : Int32))) (st := fun k => (nn (NF isF sn r (sn (9 * a + r)) k), nn k)) (n := m + 1) (out := nn (NF isF sn r (sn (9 * a + r)) (m + 1))) rfl (by omega) ?hs ?he]
    case hs =>
      intro k hk
      have hka : ¬ (nn a < 0 ∨ 7 ≤ a) := ng (by omega) (by omega)
      have hd : NF isF sn r (sn (9 * a + r)) (k + 1) = NF isF sn r (sn (9 * a + r)) k + (if isF k = 0 then 0 else if sn (9 * a + r) = sn (9 * k + r) then 1 else 0) := rfl
      rw [hd]
      by_cases hk7 : k < 7
      · have hkk : ¬ (nn k < 0 ∨ 7 ≤ k) := ng (by omega) (by omega)
        unfold f12_alikeAt_B18 f12_alikeAt_J78 f12_alikeAt_J79
        dsimp only
        rw [if_neg (show ¬ nn m < nn k from nlt (by omega) (by omega) (by omega)), nn_nat (show a < 2147483648 by omega), nn_nat (show k < 2147483648 by omega), if_neg hka, if_neg hf, if_neg hkk]
        by_cases e : isF k = 0
        · rw [if_pos e, if_pos e, lt_df, lt_df, nn_succ, Int32.add_zero]; rfl
        · rw [if_neg e, if_neg e, ix a ha7, ix k hk7, nn_nat (show 9 * a + r < 2147483648 by omega), nn_nat (show 9 * k + r < 2147483648 by omega), if_neg (ng (show 9 * a + r < 2147483648 by omega) (show 9 * a + r < 63 by omega)), lt_df (sn (9 * a + r)), if_neg (ng (show 9 * k + r < 2147483648 by omega) (show 9 * k + r < 63 by omega)), lt_df (sn (9 * k + r))]
          by_cases e2 : sn (9 * a + r) = sn (9 * k + r)
          · rw [if_pos e2, if_pos e2, lt_df, lt_df, nn_succ, nn_succ]
          · rw [if_neg e2, if_neg e2, lt_df, lt_df, nn_succ, Int32.add_zero]; rfl
      · omega
    case he =>
      unfold f12_alikeAt_B18
      dsimp only
      rw [if_pos (show nn m < nn (m + 1) from nltT (by omega) (by omega) (by omega))]
  have h18z : ∀ a, a < 7 → isF a = 0 → iter (fun (z : Int32 × Int32) => f12_alikeAt_B18 (nn m) (nn a) isF (nn r) sn z.1 z.2) FUEL ((0 : Int32), (0 : Int32)) = some 0 := by
    intro a ha hf
    have e : f12_alikeAt_B18 (nn m) (nn a) isF (nn r) sn 0 0 = some (.inr 0) := by
      unfold f12_alikeAt_B18
      rw [if_neg (show ¬ nn m < (0 : Int32) from nlt0 (by omega)), nn_nat (by omega), if_neg (ng (by omega) (by omega)), if_pos hf]
    rw [show FUEL = 999999 + 1 by decide, iter]
    dsimp only
    rw [e]
  unfold f12_alikeAt
  rw [iter_for (s := ((0 : Int32), (0 : Int32))) (st := fun k => (nn (mxF (fun a => if isF a = 0 then 0 else NF isF sn r (sn (9 * a + r)) (m + 1)) k), nn k)) (n := m + 1) (out := nn (alM isF sn m r)) rfl (by omega) ?hs ?he]
  · exact bnd1_s _ _
  case hs =>
    intro k hk
    have b2 : mxF (fun a => if isF a = 0 then 0 else NF isF sn r (sn (9 * a + r)) (m + 1)) k ≤ m + 1 := mxF_ub (fun a _ => by
      split
      · exact Nat.zero_le _
      · exact NF_le _ _ _ _ _)
    have b1 := NF_le isF sn r (sn (9 * k + r)) (m + 1)
    have hd : mxF (fun a => if isF a = 0 then 0 else NF isF sn r (sn (9 * a + r)) (m + 1)) (k + 1) = max (mxF (fun a => if isF a = 0 then 0 else NF isF sn r (sn (9 * a + r)) (m + 1)) k) (if isF k = 0 then 0 else NF isF sn r (sn (9 * k + r)) (m + 1)) := rfl
    unfold f12_alikeAt_B4 f12_alikeAt_J100
    dsimp only
    rw [hd, if_neg (show ¬ nn m < nn k from nlt (by omega) (by omega) (by omega))]
    by_cases e : isF k = 0
    · rw [h18z k (by omega) e, bnd1_s, if_pos e, if_pos (n0le (by omega)), lt_df, nn_succ, Nat.max_eq_left (Nat.zero_le _)]
    · rw [h18 k hk (by omega) e, bnd1_s, if_neg e]
      by_cases h : NF isF sn r (sn (9 * k + r)) (m + 1) ≤ mxF (fun a => if isF a = 0 then 0 else NF isF sn r (sn (9 * a + r)) (m + 1)) k
      · rw [if_pos (nleT (by omega) (by omega) h), lt_df, nn_succ, Nat.max_eq_left h]
      · rw [if_neg (nle (by omega) (by omega) h), lt_df, nn_succ, Nat.max_eq_right (by omega)]
  case he =>
    unfold f12_alikeAt_B4
    dsimp only
    rw [if_pos (show nn m < nn (m + 1) from nltT (by omega) (by omega) (by omega))]
    rfl
/-- the first rung on which they are least alike -/
def amF (A : Nat → Nat) : Nat → Nat
  | 0 => 0
  | 1 => 0
  | k + 2 => if A (k + 1) < A (amF A (k + 1)) then k + 1 else amF A (k + 1)
theorem amF_s {A : Nat → Nat} {k : Nat} (hk : 0 < k) : amF A (k + 1) = if A k < A (amF A k) then k else amF A k := by
  obtain ⟨j, rfl⟩ : ∃ j, k = j + 1 := ⟨k - 1, by omega⟩
  rfl
theorem amF_lt {A : Nat → Nat} : ∀ {k : Nat}, 0 < k → amF A k < k
  | 1, _ => Nat.zero_lt_one
  | k + 2, _ => by
    have := amF_lt (A := A) (k := k + 1) (by omega)
    rw [amF_s (by omega)]
    split <;> omega
theorem c_parting {cr : Nat → Int32} {fc R : Nat} {pr ma : Int32} {A : Nat → Nat} (hfc : fc < 8) (hR0 : 0 < R) (hR9 : R < 10) (hA : ∀ r, r < R → alC cr fc r = A r) (h8 : ∀ r, r < R → A r < 8) : f3_findPartingRung (nn fc) pr ma cr (nn R) = some (nn (amF A R), nn (A (amF A R))) := by
  unfold f3_findPartingRung
  rw [iter_for (s := ((-1 : Int32), (8 : Int32), (0 : Int32))) (st := fun k => if k = 0 then ((-1 : Int32), (8 : Int32), (0 : Int32)) else (nn (amF A k), nn (A (amF A k)), nn k)) (n := R) (out := (nn (amF A R), nn (A (amF A R)))) rfl (by omega) ?hs ?he]
  · exact bnd2_s _ _ _
  case hs =>
    intro k hk
    rw [if_neg (show ¬ k + 1 = 0 by omega)]
    by_cases h0 : k = 0
    · subst h0
      rw [if_pos rfl]
      unfold f3_findPartingRung_B13
      dsimp only
      rw [if_neg (show ¬ nn R ≤ 0 from nle (b := 0) (by omega) (by omega) (by omega)), if_neg (by decide), show f3_largestGroup (nn fc) cr 0 = _ from c_largest (r := 0) hfc (by decide), bnd1_s, hA 0 hk, if_neg (show ¬ (8 : Int32) ≤ nn (A 0) from nle (a := 8) (by omega) (by have := h8 0 hk; omega) (by have := h8 0 hk; omega)), lt_df]
      rfl
    · have hl := amF_lt (A := A) (k := k) (by omega)
      have q1 := h8 k hk
      have q2 := h8 (amF A k) (by omega)
      rw [if_neg h0]
      unfold f3_findPartingRung_B13
      dsimp only
      rw [if_neg (nle (by omega) (by omega) (by omega)), if_neg (show ¬ (9 : Int32) ≤ nn k from nle (a := 9) (by omega) (by omega) (by omega)), c_largest hfc (by omega), bnd1_s, hA k hk, amF_s (by omega)]
      by_cases h : A k < A (amF A k)
      · rw [if_neg (nle (by omega) (by omega) (by omega)), if_pos h, lt_df, nn_succ]
      · rw [if_pos (nleT (by omega) (by omega) (by omega)), if_neg h, lt_df, nn_succ]
  case he =>
    rw [if_neg (show ¬ R = 0 by omega)]
    unfold f3_findPartingRung_B13
    dsimp only
    rw [if_pos (Int32.le_refl _)]
theorem m_look41 {S isF sn : Nat → Int32} {m R : Nat} {A : Nat → Nat} (hm : m < 7) (hR0 : 0 < R) (hR9 : R < 10) (hR : S 0 = nn R) (hA : ∀ r, r < R → alM isF sn m r = A r) (h8 : ∀ r, r < R → A r < 8) : iter (fun (z : Int32 × Int32) => f12_look_B41 S (nn m) isF sn z.1 z.2) FUEL ((0 : Int32), (1 : Int32)) = some (nn (amF A R)) := by
  rw [iter_for (s := ((0 : Int32), (1 : Int32))) (st := fun k => (nn (amF A (k + 1)), nn (k + 1))) (n := R - 1) (out := nn (amF A R)) rfl (by omega) ?hs ?he]
  case hs =>
    intro k hk
    have hl := amF_lt (A := A) (k := k + 1) (by omega)
    have q1 := h8 (k + 1) (by omega)
    have q2 := h8 (amF A (k + 1)) (by omega)
    unfold f12_look_B41
    dsimp only
    rw [hR, if_neg (nle (by omega) (by omega) (by omega)), m_alike hm (by omega), bnd1_s, m_alike hm (by omega), bnd1_s, hA (k + 1) (by omega), hA (amF A (k + 1)) (by omega), amF_s (k := k + 1) (by omega)]
    by_cases h : A (k + 1) < A (amF A (k + 1))
    · rw [if_neg (nle (by omega) (by omega) (by omega)), if_pos h, lt_df, nn_succ]
    · rw [if_pos (nleT (by omega) (by omega) (by omega)), if_neg h, lt_df, nn_succ]
  case he =>
    unfold f12_look_B41
    dsimp only
    rw [hR, show R - 1 + 1 = R by omega, if_pos (Int32.le_refl _)]
section
variable {S : Nat → Int32} {R P : Nat} {rungs people sbr notes fo hb bk tp th tb fc ff pr ma : Int32} {room strength weight told srg swt nh nr nm wl de wil mov sign clause clauses tr tg tw ts tk kept : Nat → Int32} {wo st wd : Nat → Int64}
variable {rls : Nat → Option Nat} {m : Nat} {pR ncF nsF ntF : Nat → Nat} {codeF seF teF : Nat → Nat → Int32} {stk : Nat → Nat → Int64} {tps cr sn isF : Nat → Int32}
theorem r_ruled (hm : m < 7) (hI : IV R P S) (hL : RLd R P S rungs people room strength weight told) (hB : 0 < R → RBg R P S sbr told srg swt) (hN : RNo S notes nh nr nm)
    (hru : ∀ j, j < m → rls j = some (pR j)) (hE : ∀ j, j < m → REv (ncF j) (codeF j) (nsF j) (seF j) (ntF j) (teF j) sign clause clauses (nn j)) (a1 : Int32) :
    ∃ v fc1 ff1 cr1 hb1 wl1 de1 wo1 th1 tb1 tr1 tg1 tw1 ts1 tk1 stk1 tps1 st1 tp1 wd1 wi1 mo1 bk1 kp1 is1 sn1,
      f11_ruled rls (nn m) pR ncF codeF nsF seF ntF teF stk tps notes nh nr nm rungs people sbr room strength weight told srg swt fc ff cr hb wl de wo th tb tr tg tw ts tk a1 = some (v, fc1, ff1, cr1, hb1, wl1, de1, wo1, th1, tb1, tr1, tg1, tw1, ts1, tk1, stk1, tps1) ∧
      f12_ruled (nn m) sign clause clauses st tp wd S fo wil mov bk kept isF sn a1 = some (v, st1, tp1, wd1, S, fo, wi1, mo1, bk1, kp1, is1, sn1) := by
  have hno : ∃ v fc1 ff1 cr1 hb1 wl1 de1 wo1 th1 tb1 tr1 tg1 tw1 ts1 tk1 stk1 tps1 st1 tp1 wd1 wi1 mo1 bk1 kp1 is1 sn1,
      some ((-3 : Int32), fc, ff, cr, hb, wl, de, wo, th, tb, tr, tg, tw, ts, tk, stk, tps) = some (v, fc1, ff1, cr1, hb1, wl1, de1, wo1, th1, tb1, tr1, tg1, tw1, ts1, tk1, stk1, tps1) ∧ some ((-3 : Int32), st, tp, wd, S, fo, wil, mov, bk, kept, isF, sn) = some (v, st1, tp1, wd1, S, fo, wi1, mo1, bk1, kp1, is1, sn1) := ⟨-3, fc, ff, cr, hb, wl, de, wo, th, tb, tr, tg, tw, ts, tk, stk, tps, st, tp, wd, wil, mov, bk, kept, isF, sn, rfl, rfl⟩
  have i1 : f12_in (Int32.toInt64 a1) (0 : Int64) (1 : Int64) = _ := m_in (a := a1) (lo := 0) (hi := 1) (by decide) (by decide)
  unfold f11_ruled f12_ruled
  rcases p_has hI with ⟨z0, e1, e2⟩ | ⟨z0, e1, e2⟩
  · rw [show f11_hasLadder rungs = some 0 by rw [hL.1]; exact e1, e2, bnd1_s, bnd1_s, if_pos rfl, if_pos rfl]; exact hno
  have hk : f11_hasLadder rungs = some 1 := by rw [hL.1]; exact e1
  rw [hk, e2, bnd1_s, bnd1_s, if_neg (show ¬ (1 : Int32) = 0 by decide), if_neg (show ¬ (1 : Int32) = 0 by decide), i1, bnd1_s]
  by_cases c7 : a1 < 0
  · rw [if_pos c7, if_pos (show a1 < nn 0 from c7), if_pos rfl]; exact hno
  rw [if_neg c7, if_neg (show ¬ a1 < nn 0 from c7)]
  by_cases c8 : a1 ≤ 1
  · obtain ⟨isF1, cr1, sn1, hb1, wl1, de1, wo1, th1, tb1, tr1, tg1, tw1, ts1, tk1, stk1, tps1, st1, tp1, wd1, wi1, mo1, bk1, j1, j2, j3⟩ := r_try (n := 0) (fo := fo) (cr := cr) (hb := hb) (wl := wl) (de := de) (wo := wo) (th := th) (tb := tb) (tr := tr) (tg := tg) (tw := tw) (ts := ts) (tk := tk) (stk := stk) (tps := tps) (st := st) (tp := tp) (wd := wd) (wil := wil) (mov := mov) (bk := bk) (kept := kept) (sn := sn) (isF := isF) hm (by omega) hI hL (hB z0) hN hru hE
    rw [if_pos c8, if_neg (show ¬ nn 1 < a1 from Int32.not_lt.mpr c8), if_neg (show ¬ (1 : Int32) = 0 by decide), show f3_tryRules rls (nn m) pR ncF codeF nsF seF ntF teF stk tps notes nh nr nm rungs people sbr room strength weight told srg swt cr hb wl de wo th tb tr tg tw ts tk 0 = _ from j1, bnd16_s, show f12_fillsFits (nn m) sign clause clauses st tp wd S fo wil mov bk kept isF sn 0 = _ from j2, bnd11_s, m_ruled36 hm, bnd2_s]
    by_cases t0 : a1 = 0
    · rw [if_pos t0, if_pos t0]
      exact ⟨_, _, _, _, _, _, _, _, _, _, _, _, _, _, _, _, _, _, _, _, _, _, _, _, _, _, rfl, rfl⟩
    · rw [if_neg t0, if_neg t0]
      exact ⟨_, _, _, _, _, _, _, _, _, _, _, _, _, _, _, _, _, _, _, _, _, _, _, _, _, _, rfl, rfl⟩
  · rw [if_neg c8, if_pos (show nn 1 < a1 from Int32.not_le.mp c8), if_pos rfl]; exact hno
theorem r_look (hm : m < 7) (hI : IV R P S) (hL : RLd R P S rungs people room strength weight told) (hB : 0 < R → RBg R P S sbr told srg swt) (hN : RNo S notes nh nr nm)
    (hru : ∀ j, j < m → rls j = some (pR j)) (hE : ∀ j, j < m → REv (ncF j) (codeF j) (nsF j) (seF j) (ntF j) (teF j) sign clause clauses (nn j)) (a1 a2 : Int32) :
    ∃ v fc1 ff1 pr1 ma1 cr1 hb1 wl1 de1 wo1 th1 tb1 tr1 tg1 tw1 ts1 tk1 stk1 tps1 st1 tp1 wd1 wi1 mo1 bk1 kp1 is1 sn1,
      f11_look rls (nn m) pR ncF codeF nsF seF ntF teF stk tps notes nh nr nm rungs people sbr room strength weight told srg swt fc ff pr ma cr hb wl de wo th tb tr tg tw ts tk a1 a2 = some (v, fc1, ff1, pr1, ma1, cr1, hb1, wl1, de1, wo1, th1, tb1, tr1, tg1, tw1, ts1, tk1, stk1, tps1) ∧
      f12_look (nn m) sign clause clauses st tp wd S fo wil mov bk kept isF sn a1 a2 = some (v, st1, tp1, wd1, S, fo, wi1, mo1, bk1, kp1, is1, sn1) := by
  have hR9 := hI.1.1
  have hno : ∃ v fc1 ff1 pr1 ma1 cr1 hb1 wl1 de1 wo1 th1 tb1 tr1 tg1 tw1 ts1 tk1 stk1 tps1 st1 tp1 wd1 wi1 mo1 bk1 kp1 is1 sn1,
      some ((-1 : Int32), fc, ff, pr, ma, cr, hb, wl, de, wo, th, tb, tr, tg, tw, ts, tk, stk, tps) = some (v, fc1, ff1, pr1, ma1, cr1, hb1, wl1, de1, wo1, th1, tb1, tr1, tg1, tw1, ts1, tk1, stk1, tps1) ∧ some ((-1 : Int32), st, tp, wd, S, fo, wil, mov, bk, kept, isF, sn) = some (v, st1, tp1, wd1, S, fo, wi1, mo1, bk1, kp1, is1, sn1) := ⟨-1, fc, ff, pr, ma, cr, hb, wl, de, wo, th, tb, tr, tg, tw, ts, tk, stk, tps, st, tp, wd, wil, mov, bk, kept, isF, sn, rfl, rfl⟩
  have i1 : f12_in (Int32.toInt64 a1) (0 : Int64) (60 : Int64) = _ := m_in (a := a1) (lo := 0) (hi := 60) (by decide) (by decide)
  have i2 : f12_in (Int32.toInt64 a2) (0 : Int64) (1 : Int64) = _ := m_in (a := a2) (lo := 0) (hi := 1) (by decide) (by decide)
  unfold f11_look f12_look
  rcases p_has hI with ⟨z0, e1, e2⟩ | ⟨z0, e1, e2⟩
  · rw [show f11_hasLadder rungs = some 0 by rw [hL.1]; exact e1, e2, bnd1_s, bnd1_s, if_pos rfl, if_pos rfl]; exact hno
  have hk : f11_hasLadder rungs = some 1 := by rw [hL.1]; exact e1
  rw [hk, e2, bnd1_s, bnd1_s, if_neg (show ¬ (1 : Int32) = 0 by decide), if_neg (show ¬ (1 : Int32) = 0 by decide), i1, bnd1_s]
  by_cases c1 : a1 < 0
  · rw [if_pos c1, if_pos (show a1 < nn 0 from c1), if_pos rfl]; exact hno
  rw [if_neg c1, if_neg (show ¬ a1 < nn 0 from c1)]
  by_cases c2 : 60 < a1
  · rw [if_pos c2, if_pos (show nn 60 < a1 from c2), if_pos rfl]; exact hno
  rw [if_neg c2, if_neg (show ¬ nn 60 < a1 from c2), if_neg (show ¬ (1 : Int32) = 0 by decide), i2, bnd1_s]
  by_cases c7 : a2 < 0
  · rw [if_pos c7, if_pos (show a2 < nn 0 from c7), if_pos rfl]; exact hno
  rw [if_neg c7, if_neg (show ¬ a2 < nn 0 from c7)]
  by_cases c8 : a2 ≤ 1
  · obtain ⟨n, -, hn2, rfl⟩ := nn_rng (x := a1) (lo := 0) (hi := 60) (by decide) (by decide) c1 c2
    obtain ⟨isF1, cr1, sn1, hb1, wl1, de1, wo1, th1, tb1, tr1, tg1, tw1, ts1, tk1, stk1, tps1, st1, tp1, wd1, wi1, mo1, bk1, j1, j2, j3⟩ := r_try (n := n) (fo := fo) (cr := cr) (hb := hb) (wl := wl) (de := de) (wo := wo) (th := th) (tb := tb) (tr := tr) (tg := tg) (tw := tw) (ts := ts) (tk := tk) (stk := stk) (tps := tps) (st := st) (tp := tp) (wd := wd) (wil := wil) (mov := mov) (bk := bk) (kept := kept) (sn := sn) (isF := isF) hm (by omega) hI hL (hB z0) hN hru hE
    have hA : ∀ r, r < R → alC cr1 (cnF isF1 (m + 1)) r = alM isF1 sn1 m r := fun r hr => al_eq hr j3
    have h8 : ∀ r, r < R → alM isF1 sn1 m r < 8 := fun r _ => by have := al_le (r := r) (m := m) (isF := isF1) (sn := sn1); omega
    have hcn := cnF_le isF1 (m + 1)
    have hl := amF_lt (A := alM isF1 sn1 m) (k := R) z0
    have h8b := h8 _ hl
    rw [if_pos c8, if_neg (show ¬ nn 1 < a2 from Int32.not_lt.mpr c8), if_neg (show ¬ (1 : Int32) = 0 by decide), j1, bnd16_s, j2, bnd11_s, m_look41 hm z0 hR9 hI.1.2.2.1 (fun r hr => rfl) h8, bnd1_s, m_alike hm (show amF (alM isF1 sn1 m) R < 9 by omega), bnd1_s, bnd1_s]
    by_cases h0 : cnF isF1 (m + 1) = 0
    · rw [if_pos (show nn (cnF isF1 (m + 1)) = 0 by rw [h0]; rfl), if_pos (show nn (alM isF1 sn1 m (amF (alM isF1 sn1 m) R)) = 0 by rw [al_0 h0]; rfl)]
      exact ⟨_, _, _, _, _, _, _, _, _, _, _, _, _, _, _, _, _, _, _, _, _, _, _, _, _, _, _, _, rfl, rfl⟩
    · have hp := al_pos (r := amF (alM isF1 sn1 m) R) (sn := sn1) (Nat.pos_of_ne_zero h0)
      rw [if_neg (nn0 (by omega) (by omega)), if_neg (nn0 (show alM isF1 sn1 m (amF (alM isF1 sn1 m) R) < 2147483648 by omega) hp), hL.1, c_parting (by omega) z0 hR9 hA h8, bnd2_s]
      by_cases t0 : a2 = 0
      · rw [if_pos t0, if_pos t0]
        exact ⟨_, _, _, _, _, _, _, _, _, _, _, _, _, _, _, _, _, _, _, _, _, _, _, _, _, _, _, _, rfl, rfl⟩
      · rw [if_neg t0, if_neg t0]
        exact ⟨_, _, _, _, _, _, _, _, _, _, _, _, _, _, _, _, _, _, _, _, _, _, _, _, _, _, _, _, rfl, rfl⟩
  · rw [if_neg c8, if_pos (show nn 1 < a2 from Int32.not_le.mp c8), if_pos rfl]; exact hno
end
