/-! does a rule fit: the class leaves early, the reference goes its 61 hours -/
def inR (c j : Nat) : Prop := 9 * c ≤ j ∧ j < 9 * c + 9
def RowE (R : Nat) (f g : Nat → Int32) (c d : Nat) : Prop := ∃ h : Nat → Nat, ∀ i, i < R → h i < 5 ∧ f (9 * c + i) = nn (h i) ∧ g (9 * d + i) = nn (h i)
def offR (c : Nat) (f f' : Nat → Int32) : Prop := ∀ j, ¬ inR c j → f' j = f j
theorem offR.rf {c : Nat} {f : Nat → Int32} : offR c f f := fun _ _ => rfl
theorem offR.st {g : Nat → Int32} {P c k : Nat} {f f' : Nat → Int32} (hk : k < 10) (h : offR c f f') : offR c f (stF g P c k f') := by
  intro j hj
  unfold stF
  rw [if_neg (fun h2 => hj ⟨h2.1, by omega⟩)]
  exact h j hj
theorem RowE.st {g : Nat → Int32} {R P c d : Nat} {f f2 : Nat → Int32} (hP : P < 5) : RowE R (stF g P c R f) (stF g P d R f2) c d := by
  refine ⟨fun i => crF g (nn i) P, fun i hi => ⟨Nat.lt_of_le_of_lt (crF_le g (nn i) P) hP, ?_, ?_⟩⟩
  · unfold stF
    rw [if_pos (by omega), Nat.add_sub_cancel_left]
  · unfold stF
    rw [if_pos (by omega), Nat.add_sub_cancel_left]
section
variable {S S0 : Nat → Int32} {R P : Nat} {hour broken rungs people : Int32} {rung grip want slips worn room strength weight told srg swt nh nr nm : Nat → Int32} {sbr notes fo hb bk tp th tb : Int32} {wl de wil mov sign clause clauses tr tg tw ts tk sn cr : Nat → Int32} {st wd : Nat → Int64}
theorem RNo.cells (h : RNo S notes nh nr nm) (e : St S S0) : RNo S0 notes nh nr nm := by
  obtain ⟨n, hn, h1, h2, h3⟩ := h
  refine ⟨n, hn, h1, (e.2.2.2 _ (by omega)).trans h2, fun i hi => ?_⟩
  obtain ⟨a, b, c, d⟩ := h3 i hi
  exact ⟨a.trans (e.2.2.2 _ (by omega)).symm, b.trans (e.2.2.2 _ (by omega)).symm, c.trans (e.2.2.2 _ (by omega)).symm, d⟩
/-- one hour of the reference's trial -/
theorem m_fit34 {st1 wd1 : Nat → Int64} {tp1 bk1 r w is_ : Int32} {S1 wi1 mo1 sn1 : Nat → Int32} {k n : Nat} (h60 : k < 61) (hw : f12_areNotesSo S = some w) (hw01 : w = 0 ∨ w = 1)
    (h63 : iter (fun (z : (Nat → Int32) × Int32) => f12_fillsFits_B63 S (nn k) (nn n) fo z.1 z.2) FUEL (sn, (0 : Int32)) = some sn1)
    (hp : f12_passes sign clause clauses st tp wd S fo wil mov bk = some (r, st1, tp1, wd1, S1, wi1, mo1, bk1)) :
    f12_fillsFits_B34 (nn n) fo sign clause clauses st tp wd S wil mov bk sn is_ (nn k) = some (.inl (st1, tp1, wd1, S1, wi1, mo1, bk1, sn1, (if is_ = 0 then 0 else w), nn (k + 1))) := by
  have j58 : ∀ t0 : Int32, f12_fillsFits_J58 (nn n) fo sign clause clauses st tp wd S wil mov bk sn (nn k) t0 = some (.inl (st1, tp1, wd1, S1, wi1, mo1, bk1, sn1, t0, nn (k + 1))) := by
    intro t0
    unfold f12_fillsFits_J58
    rw [h63, bnd1_s, hp, bnd8_s, lt_df, nn_succ]
  unfold f12_fillsFits_B34 f12_fillsFits_J57
  rw [if_neg (show ¬ (60 : Int32) < nn k from nlt (a := 60) (by omega) (by omega) (by omega)), hw, bnd1_s, j58, j58]
  by_cases h : is_ = 0
  · rw [if_pos h, if_pos h]
  · rw [if_neg h, if_neg h]
    rcases hw01 with rfl | rfl
    · rw [if_pos rfl]
    · rw [if_neg (show ¬ (1 : Int32) = 0 by decide)]
/-- a world of the class beside the row -/
def GW (R P : Nat) (S0 : Nat → Int32) (k : Nat) (S : Nat → Int32) : Prop := IV R P S ∧ St S0 S ∧ ∃ b rg gr wt sl wn, RWd S (nn k) b rg gr wt sl wn
def HPs (R P : Nat) (S0 sign clause clauses : Nat → Int32) (fo : Int32) : Prop := ∀ (st : Nat → Int64) (tp : Int32) (wd : Nat → Int64) (wil mov : Nat → Int32) (bk : Int32) (k : Nat) (S : Nat → Int32), GW R P S0 k S → ∃ r st1 tp1 wd1 S1 wi1 mo1 bk1, f12_passes sign clause clauses st tp wd S fo wil mov bk = some (r, st1, tp1, wd1, S1, wi1, mo1, bk1) ∧ GW R P S0 (k + 1) S1
theorem hps_n (hL : RLd R P S0 rungs people room strength weight told) (hf : fo < 0) : HPs R P S0 sign clause clauses fo := by
  intro st tp wd wil mov bk k S ⟨hI, hS, b, rg, gr, wt, sl, wn, hW⟩
  obtain ⟨v, br, will', deed', b', rung', grip', slips', worn', S', wil', moved', m1, m2, m3, m4, m5, m6⟩ := r_spend_n (hb0 := 0) (bk0 := bk) (tp := tp) (will0 := wil) (deed0 := wil) (wil0 := wil) (moved0 := mov) (sign := sign) (clause := clause) (clauses := clauses) (st := st) (wd := wd) hI hW (hL.st hS hI.1.1) hf
  exact ⟨_, _, _, _, _, _, _, _, m2, m4, hS.tr m5, _, _, _, _, _, _, by rw [← nn_succ]; exact m3⟩
theorem hps_r {nc ns nt : Nat} {code sumEnd testEnd : Nat → Int32} (hL : RLd R P S0 rungs people room strength weight told) (hf : ¬ fo < 0) (hE : REv nc code ns sumEnd nt testEnd sign clause clauses fo) : HPs R P S0 sign clause clauses fo := by
  intro st tp wd wil mov bk k S ⟨hI, hS, b, rg, gr, wt, sl, wn, hW⟩
  obtain ⟨v, br, will', deed', words', b', rung', grip', slips', worn', stack', top', st', tp', wd', S', wil', moved', m1, m2, m3, m4, m5, m6⟩ := r_spend (hb0 := 0) (bk0 := bk) (top := 0) (tp := tp) (will0 := wil) (deed0 := wil) (wil0 := wil) (moved0 := mov) (words := wd) (stack := wd) (st := st) (wd := wd) hI hW (hL.st hS hI.1.1) hf hE
  exact ⟨_, _, _, _, _, _, _, _, m2, m4, hS.tr m5, _, _, _, _, _, _, by rw [← nn_succ]; exact m3⟩
def fitB (n : Nat) (fo : Int32) (sign clause clauses : Nat → Int32) (z : (Nat → Int64) × Int32 × (Nat → Int64) × (Nat → Int32) × (Nat → Int32) × (Nat → Int32) × Int32 × (Nat → Int32) × Int32 × Int32) := f12_fillsFits_B34 (nn n) fo sign clause clauses z.1 z.2.1 z.2.2.1 z.2.2.2.1 z.2.2.2.2.1 z.2.2.2.2.2.1 z.2.2.2.2.2.2.1 z.2.2.2.2.2.2.2.1 z.2.2.2.2.2.2.2.2.1 z.2.2.2.2.2.2.2.2.2
/-- the reference alone, to its 61st hour -/
theorem m_tail {c n : Nat} (hc : c < 7) (hq : fo + 1 = nn c) (hn : n < 61) (hN : RNo S0 notes nh nr nm) (hH : HPs R P S0 sign clause clauses fo) : ∀ (d k f : Nat) (st : Nat → Int64) (tp : Int32) (wd : Nat → Int64) (S wil mov : Nat → Int32) (bk : Int32) (sn : Nat → Int32) (is_ : Int32), k + d = 61 → d < f → GW R P S0 k S → (is_ = 0 ∨ (is_ = 1 ∧ n < k ∧ ∀ n2 i g, notes = nn n2 → n2 < 11 → i < n2 → nh i = nn g → g < 61 → g < k)) →
    ∃ st1 tp1 wd1 S1 wi1 mo1 bk1 sn1, iter (fitB n fo sign clause clauses) f (st, tp, wd, S, wil, mov, bk, sn, is_, nn k) = some (st1, tp1, wd1, S1, wi1, mo1, bk1, sn1, is_) ∧ (IV R P S1 ∧ St S0 S1) ∧ offR c sn sn1 ∧ (n < k → sn1 = sn) := by
  intro d
  induction d with
  | zero =>
    intro k f st tp wd S wil mov bk sn is_ hk hf hG his
    obtain ⟨f, rfl⟩ : ∃ f', f = f' + 1 := ⟨f - 1, by omega⟩
    have e : fitB n fo sign clause clauses (st, tp, wd, S, wil, mov, bk, sn, is_, nn k) = some (.inr (st, tp, wd, S, wil, mov, bk, sn, is_)) := by
      unfold fitB f12_fillsFits_B34
      dsimp only
      rw [if_pos (show (60 : Int32) < nn k from nltT (a := 60) (by omega) (by omega) (by omega))]
    rw [iter, e]
    exact ⟨_, _, _, _, _, _, _, _, rfl, ⟨hG.1, hG.2.1⟩, offR.rf, fun _ => rfl⟩
  | succ d ih =>
    intro k f st tp wd S wil mov bk sn is_ hk hf hG his
    obtain ⟨f, rfl⟩ : ∃ f', f = f' + 1 := ⟨f - 1, by omega⟩
    obtain ⟨hI, hS, b, rg, gr, wt, sl, wn, hW⟩ := hG
    obtain ⟨w, w1, w2, w3, w4⟩ := r_areNotes (by omega) hI.1 (hN.cells hS) hW
    obtain ⟨r, st1, tp1, wd1, S1, wi1, mo1, bk1, p1, p2⟩ := hH st tp wd wil mov bk k S ⟨hI, hS, b, rg, gr, wt, sl, wn, hW⟩
    have h63 := m_fit63 (sn := sn) (k := k) (n := n) hc hq (by omega) (by omega) hI.1
    have e : fitB n fo sign clause clauses (st, tp, wd, S, wil, mov, bk, sn, is_, nn k) = some (.inl (st1, tp1, wd1, S1, wi1, mo1, bk1, (if k = n then stF (gR S) P c R sn else sn), is_, nn (k + 1))) := by
      have := m_fit34 (is_ := is_) (by omega) w2 w3 h63 p1
      unfold fitB
      dsimp only
      rw [this]
      rcases his with rfl | ⟨rfl, -, h⟩
      · rw [if_pos rfl]
      · rw [if_neg (show ¬ (1 : Int32) = 0 by decide), w4 h]
    rw [iter, e]
    obtain ⟨st2, tp2, wd2, S2, wi2, mo2, bk2, sn2, q1, q2, q3, q4⟩ := ih (k + 1) f st1 tp1 wd1 S1 wi1 mo1 bk1 (if k = n then stF (gR S) P c R sn else sn) is_ (by omega) (by omega) p2 (by
      rcases his with h | ⟨h1, h2, h3⟩
      · exact Or.inl h
      · exact Or.inr ⟨h1, by omega, fun n2 i g a b c d e => by have := h3 n2 i g a b c d e; omega⟩)
    refine ⟨st2, tp2, wd2, S2, wi2, mo2, bk2, sn2, q1, q2, fun j hj => ?_, fun h => ?_⟩
    · rw [q3 j hj]
      split
      · exact (offR.st (k := R) (g := gR S) (P := P) (c := c) hI.1.1 offR.rf) j hj
      · rfl
    · rw [q4 (by omega), if_neg (by omega)]
theorem r_fits_n27 {c d n Lm : Nat} {tw1 : Nat → Int32} (hc : c < 7) (hd : d < 7) (hq : fo + 1 = nn d) (hn : n ≤ Lm) (hLm : Lm < 61) (hNl : ∀ n2 i g, notes = nn n2 → n2 < 11 → i < n2 → nh i = nn g → g < 61 → g ≤ Lm) (hI : IV R P S0) (hW : RWd S0 0 tb tr tg tw1 ts tk) (hth : th = 0) (hL : RLd R P S0 rungs people room strength weight told) (hN : RNo S0 notes nh nr nm) (hf : fo < 0) :
    ∃ a b, iter (fun (z : (Nat → Int32) × Int32 × (Nat → Int32) × (Nat → Int32) × Int32 × Int32 × (Nat → Int32) × (Nat → Int32) × (Nat → Int32) × (Nat → Int32) × Int32) => f3_fits_n_B27 (nn Lm) notes nh nr nm people tw1 (nn n) (nn c) rungs room strength weight told z.1 z.2.1 z.2.2.1 z.2.2.2.1 z.2.2.2.2.1 z.2.2.2.2.2.1 z.2.2.2.2.2.2.1 z.2.2.2.2.2.2.2.1 z.2.2.2.2.2.2.2.2.1 z.2.2.2.2.2.2.2.2.2.1 z.2.2.2.2.2.2.2.2.2.2) FUEL (cr, hb, wl, de, th, tb, tr, tg, ts, tk, (0 : Int32)) = some a ∧ iter (fitB n fo sign clause clauses) FUEL (st, tp, wd, S0, wil, mov, bk, sn, (1 : Int32), (0 : Int32)) = some b ∧ (fun e f => ∃ st1 tp1 wd1 S1 wi1 mo1 bk1 sn1 is1 cr1 hb1 wl1 de1 th1 tb1 tr1 tg1 ts1 tk1, f = (st1, tp1, wd1, S1, wi1, mo1, bk1, sn1, is1) ∧ (IV R P S1 ∧ St S0 S1) ∧ offR d sn sn1 ∧ offR c cr cr1 ∧ ((is1 = 0 ∧ e = .inl (0, cr1, hb1, wl1, de1, th1, tb1, tr1, tg1, tw1, ts1, tk1)) ∨ (is1 = 1 ∧ e = .inr (cr1, hb1, wl1, de1, th1, tb1, tr1, tg1, ts1, tk1) ∧ RowE R cr1 sn1 c d))) a b := by
  have hR9 := hI.1.1
  have hP4 := hI.1.2.1
  have hpe : people = nn P := hL.2.1
  have hru : rungs = nn R := hL.1
  have hH : HPs R P S0 sign clause clauses fo := hps_n hL hf
  refine iter_twoEF (B := (fun (z : (Nat → Int32) × Int32 × (Nat → Int32) × (Nat → Int32) × Int32 × Int32 × (Nat → Int32) × (Nat → Int32) × (Nat → Int32) × (Nat → Int32) × Int32) => f3_fits_n_B27 (nn Lm) notes nh nr nm people tw1 (nn n) (nn c) rungs room strength weight told z.1 z.2.1 z.2.2.1 z.2.2.2.1 z.2.2.2.2.1 z.2.2.2.2.2.1 z.2.2.2.2.2.2.1 z.2.2.2.2.2.2.2.1 z.2.2.2.2.2.2.2.2.1 z.2.2.2.2.2.2.2.2.2.1 z.2.2.2.2.2.2.2.2.2.2)) (C := fitB n fo sign clause clauses) (n := 61)
    (I := fun n9 a b => ∃ k, n9 + k = 61 ∧ k ≤ Lm + 1 ∧ a.2.2.2.2.2.2.2.2.2.2 = nn k ∧ b.2.2.2.2.2.2.2.2.2 = nn k ∧ b.2.2.2.2.2.2.2.2.1 = 1 ∧ RWd b.2.2.2.1 (nn k) a.2.2.2.2.2.1 a.2.2.2.2.2.2.1 a.2.2.2.2.2.2.2.1 tw1 a.2.2.2.2.2.2.2.2.1 a.2.2.2.2.2.2.2.2.2.1 ∧ a.2.2.2.2.1 = nn k ∧ IV R P b.2.2.2.1 ∧ St S0 b.2.2.2.1 ∧ offR c cr a.1 ∧ offR d sn b.2.2.2.2.2.2.2.1 ∧ (n < k → RowE R a.1 b.2.2.2.2.2.2.2.1 c d))
    (Po := fun e f => ∃ st1 tp1 wd1 S1 wi1 mo1 bk1 sn1 is1 cr1 hb1 wl1 de1 th1 tb1 tr1 tg1 ts1 tk1, f = (st1, tp1, wd1, S1, wi1, mo1, bk1, sn1, is1) ∧ (IV R P S1 ∧ St S0 S1) ∧ offR d sn sn1 ∧ offR c cr cr1 ∧ ((is1 = 0 ∧ e = .inl (0, cr1, hb1, wl1, de1, th1, tb1, tr1, tg1, tw1, ts1, tk1)) ∨ (is1 = 1 ∧ e = .inr (cr1, hb1, wl1, de1, th1, tb1, tr1, tg1, ts1, tk1) ∧ RowE R cr1 sn1 c d)))
    ⟨0, rfl, by omega, rfl, rfl, rfl, hW, hth, hI, St.rf, offR.rf, offR.rf, fun h => absurd h (Nat.not_lt_zero _)⟩ (by omega) ?_
  rintro n9 ⟨cr2, hb2, wl2, de2, th2, tb2, tr2, tg2, ts2, tk2, i⟩ ⟨st2, tp2, wd2, S2, wil2, mov2, bk2, sn2, is2, j⟩ ⟨k, hk, hkL, rfl, rfl, rfl, hWk, rfl, hIk, hSk, hcr, hsn, hrow⟩
  dsimp only at hWk hIk hSk hcr hsn hrow ⊢
  by_cases hkLm : k ≤ Lm
  · obtain ⟨w, w1, w2, w3, w4⟩ := r_areNotes (by omega) hIk.1 (hN.cells hSk) hWk
    obtain ⟨v, br, will', deed', b', rung', grip', slips', worn', S', wil', moved', m1, m2, m3, m4, m5, m6⟩ := r_spend_n (hb0 := hb2) (bk0 := bk2) (tp := tp2) (will0 := wl2) (deed0 := de2) (wil0 := wil2) (moved0 := mov2) (sign := sign) (clause := clause) (clauses := clauses) (st := st2) (wd := wd2) hIk hWk (hL.st hSk hR9) hf
    have h63 := m_fit63 (sn := sn2) (k := k) (n := n) hd hq (by omega) (by omega) hIk.1
    have e34 := m_fit34 (is_ := 1) (by omega) w2 w3 h63 m2
    rw [if_neg (show ¬ (1 : Int32) = 0 by decide)] at e34
    have hk1 : nn k + 1 = nn (k + 1) := nn_succ k
    rcases w3 with rfl | rfl
    · right
      have hG1 : GW R P S0 (k + 1) S' := ⟨m4, hSk.tr m5, _, _, _, _, _, _, hk1 ▸ m3⟩
      have eB : f3_fits_n_B27 (nn Lm) notes nh nr nm people tw1 (nn n) (nn c) rungs room strength weight told cr2 hb2 wl2 de2 (nn k) tb2 tr2 tg2 ts2 tk2 (nn k) = some (.inr (.inl (0, cr2, hb2, wl2, de2, nn k, tb2, tr2, tg2, tw1, ts2, tk2))) := by
        unfold f3_fits_n_B27
        rw [if_neg (nlt (by omega) (by omega) (by omega)), hpe, w1, bnd1_s, if_pos rfl]
      refine ⟨_, eB, fun f hf9 => ?_⟩
      obtain ⟨f, rfl⟩ : ∃ f', f = f' + 1 := ⟨f - 1, by omega⟩
      have e : fitB n fo sign clause clauses (st2, tp2, wd2, S2, wil2, mov2, bk2, sn2, 1, nn k) = _ := e34
      rw [iter, e]
      obtain ⟨st3, tp3, wd3, S3, wi3, mo3, bk3, sn3, q1, q2, q3, q4⟩ := m_tail (n := n) hd hq (by omega) hN hH (n9 - 1) (k + 1) f _ _ _ _ _ _ _ (if k = n then stF (gR S2) P d R sn2 else sn2) 0 (by omega) (by omega) hG1 (Or.inl rfl)
      refine ⟨_, q1, st3, tp3, wd3, S3, wi3, mo3, bk3, sn3, 0, cr2, hb2, wl2, de2, _, tb2, tr2, tg2, ts2, tk2, rfl, q2, fun j hj => ?_, hcr, Or.inl ⟨rfl, rfl⟩⟩
      rw [q3 j hj]
      split
      · exact (offR.st (g := gR S2) (P := P) hR9 hsn) j hj
      · exact hsn j hj
    · left
      have eB : f3_fits_n_B27 (nn Lm) notes nh nr nm people tw1 (nn n) (nn c) rungs room strength weight told cr2 hb2 wl2 de2 (nn k) tb2 tr2 tg2 ts2 tk2 (nn k) = some (.inl ((if k = n then stF (gR S2) P c R cr2 else cr2), br, will', deed', nn (k + 1), b', rung', grip', slips', worn', nn (k + 1))) := by
        unfold f3_fits_n_B27 f3_fits_n_J57
        rw [if_neg (nlt (by omega) (by omega) (by omega)), hpe, w1, bnd1_s, if_neg (show ¬ (1 : Int32) = 0 by decide), hru, c_keepCrowds hc hR9 hP4, bnd1_s, ← hru, ← hpe, m1, bnd10_s, lt_df, hk1, stF_congr (g' := gR S2) (fun p hp => hWk.2.2.1 p (by omega))]
        by_cases e : k = n
        · rw [if_pos (show nn k = nn n by rw [e]), if_pos e]
        · rw [if_neg (nne (by omega) (by omega) e), if_neg e, bnd10_s, lt_df]
      refine ⟨_, _, n9 - 1, eB, e34, by omega, k + 1, by omega, by omega, rfl, rfl, rfl, hk1 ▸ m3, rfl, m4, hSk.tr m5, ?_, ?_, fun h => ?_⟩
      · dsimp only
        split
        · exact offR.st hR9 hcr
        · exact hcr
      · dsimp only
        split
        · exact offR.st hR9 hsn
        · exact hsn
      · dsimp only
        by_cases e : k = n
        · rw [if_pos e, if_pos e]; exact RowE.st hP4
        · rw [if_neg e, if_neg e]; exact hrow (by omega)
  · right
    have hkk : k = Lm + 1 := by omega
    have eB : f3_fits_n_B27 (nn Lm) notes nh nr nm people tw1 (nn n) (nn c) rungs room strength weight told cr2 hb2 wl2 de2 (nn k) tb2 tr2 tg2 ts2 tk2 (nn k) = some (.inr (.inr (cr2, hb2, wl2, de2, nn k, tb2, tr2, tg2, ts2, tk2))) := by
      unfold f3_fits_n_B27
      rw [if_pos (nltT (by omega) (by omega) (by omega))]
    refine ⟨_, eB, fun f hf9 => ?_⟩
    obtain ⟨st3, tp3, wd3, S3, wi3, mo3, bk3, sn3, q1, q2, q3, q4⟩ := m_tail (n := n) hd hq (by omega) hN hH n9 k f st2 tp2 wd2 S2 wil2 mov2 bk2 sn2 1 (by omega) hf9 ⟨hIk, hSk, _, _, _, _, _, _, hWk⟩ (Or.inr ⟨rfl, by omega, fun n2 i g a b c d e => by have := hNl n2 i g a b c d e; omega⟩)
    have hs := q4 (by omega)
    subst hs
    exact ⟨_, q1, st3, tp3, wd3, S3, wi3, mo3, bk3, sn3, 1, cr2, hb2, wl2, de2, _, tb2, tr2, tg2, ts2, tk2, rfl, q2, hsn, hcr, Or.inr ⟨rfl, rfl, hrow (by omega)⟩⟩
theorem r_fits_n {c d n : Nat} (hc : c < 7) (hd : d < 7) (hq : fo + 1 = nn d) (hn : n < 61) (hI : IV R P S) (hL : RLd R P S rungs people room strength weight told) (hB : RBg R P S sbr told srg swt) (hN : RNo S notes nh nr nm) (hf : fo < 0) :
    ∃ v cr1 hb1 wl1 de1 th1 tb1 tr1 tg1 tw1 ts1 tk1 st1 tp1 wd1 S0 S1 wi1 mo1 bk1 sn1, f3_fits_n (nn c) cr hb wl de th tb tr tg tw ts tk notes nh nr nm rungs people sbr room strength weight told srg swt (nn n) = some (v, cr1, hb1, wl1, de1, th1, tb1, tr1, tg1, tw1, ts1, tk1) ∧ f12_begins S = some S0 ∧ iter (fitB n fo sign clause clauses) FUEL (st, tp, wd, S0, wil, mov, bk, sn, (1 : Int32), (0 : Int32)) = some (st1, tp1, wd1, S1, wi1, mo1, bk1, sn1, v) ∧ (IV R P S1 ∧ St S S1) ∧ offR d sn sn1 ∧ offR c cr cr1 ∧ (v = 0 ∨ (v = 1 ∧ RowE R cr1 sn1 c d)) := by
  obtain ⟨tr0, tg0, tw0, ts0, tk0, S0, b1, b2, b3, b4, b5⟩ := r_begins (th := th) (tb := tb) (tr := tr) (tg := tg) (tw := tw) (ts := ts) (tk := tk) hI.1 hB
  obtain ⟨L, l1, l2, l3⟩ := c_lastNoted hN
  have hx : (if nn L < nn n then nn n else nn L) = nn (max L n) := by
    by_cases h : L < n
    · rw [if_pos (nltT (by omega) (by omega) h), Nat.max_eq_right (by omega)]
    · rw [if_neg (nlt (by omega) (by omega) h), Nat.max_eq_left (by omega)]
  obtain ⟨a, b, e1, e2, st1, tp1, wd1, S1, wi1, mo1, bk1, sn1, is1, cr1, hb1, wl1, de1, th1, tb1, tr1, tg1, ts1, tk1, rfl, q1, q2, q3, q4⟩ := r_fits_n27 (hb := hb) (wl := wl) (de := de) (cr := cr) (st := st) (tp := tp) (wd := wd) (wil := wil) (mov := mov) (bk := bk) (sn := sn) (sign := sign) (clause := clause) (clauses := clauses) hc hd hq (show n ≤ max L n from Nat.le_max_right _ _) (show max L n < 61 by omega) (fun n2 i g a b c d e => Nat.le_trans (l3 n2 i g a b c d e) (Nat.le_max_left _ _)) b4 b3 rfl (hL.st b5 hI.1.1) (hN.cells b5) hf
  unfold f3_fits_n
  rw [b1, bnd7_s, l2, bnd1_s, hx, lt_df, e1]
  rcases q4 with ⟨rfl, rfl⟩ | ⟨rfl, rfl, q5⟩
  · rw [bndS10_l]
    exact ⟨_, _, _, _, _, _, _, _, _, _, _, _, st1, tp1, wd1, S0, S1, wi1, mo1, bk1, sn1, rfl, b2, e2, ⟨q1.1, b5.tr q1.2⟩, q2, q3, Or.inl rfl⟩
  · rw [bndS10_r]
    exact ⟨_, _, _, _, _, _, _, _, _, _, _, _, st1, tp1, wd1, S0, S1, wi1, mo1, bk1, sn1, rfl, b2, e2, ⟨q1.1, b5.tr q1.2⟩, q2, q3, Or.inr ⟨rfl, q5⟩⟩
theorem r_fits27 {nc ns nt : Nat} {code sumEnd testEnd : Nat → Int32} {wo stack : Nat → Int64} {top : Int32} {c d n Lm : Nat} {tw1 : Nat → Int32} (hc : c < 7) (hd : d < 7) (hq : fo + 1 = nn d) (hn : n ≤ Lm) (hLm : Lm < 61) (hNl : ∀ n2 i g, notes = nn n2 → n2 < 11 → i < n2 → nh i = nn g → g < 61 → g ≤ Lm) (hI : IV R P S0) (hW : RWd S0 0 tb tr tg tw1 ts tk) (hth : th = 0) (hL : RLd R P S0 rungs people room strength weight told) (hN : RNo S0 notes nh nr nm) (hf : ¬ fo < 0) (hE : REv nc code ns sumEnd nt testEnd sign clause clauses fo) :
    ∃ a b, iter (fun (z : (Nat → Int32) × Int32 × (Nat → Int32) × (Nat → Int32) × (Nat → Int64) × Int32 × Int32 × (Nat → Int32) × (Nat → Int32) × (Nat → Int32) × (Nat → Int32) × (Nat → Int64) × Int32 × Int32) => f3_fits_B27 (nn Lm) notes nh nr nm people tw1 (nn n) (nn c) rungs room strength weight told nc code ns sumEnd nt testEnd z.1 z.2.1 z.2.2.1 z.2.2.2.1 z.2.2.2.2.1 z.2.2.2.2.2.1 z.2.2.2.2.2.2.1 z.2.2.2.2.2.2.2.1 z.2.2.2.2.2.2.2.2.1 z.2.2.2.2.2.2.2.2.2.1 z.2.2.2.2.2.2.2.2.2.2.1 z.2.2.2.2.2.2.2.2.2.2.2.1 z.2.2.2.2.2.2.2.2.2.2.2.2.1 z.2.2.2.2.2.2.2.2.2.2.2.2.2) FUEL (cr, hb, wl, de, wo, th, tb, tr, tg, ts, tk, stack, top, (0 : Int32)) = some a ∧ iter (fitB n fo sign clause clauses) FUEL (st, tp, wd, S0, wil, mov, bk, sn, (1 : Int32), (0 : Int32)) = some b ∧ (fun e f => ∃ st1 tp1 wd1 S1 wi1 mo1 bk1 sn1 is1 cr1 hb1 wl1 de1 wo1 th1 tb1 tr1 tg1 ts1 tk1 stack1 top1, f = (st1, tp1, wd1, S1, wi1, mo1, bk1, sn1, is1) ∧ (IV R P S1 ∧ St S0 S1) ∧ offR d sn sn1 ∧ offR c cr cr1 ∧ ((is1 = 0 ∧ e = .inl (0, cr1, hb1, wl1, de1, wo1, th1, tb1, tr1, tg1, tw1, ts1, tk1, stack1, top1)) ∨ (is1 = 1 ∧ e = .inr (cr1, hb1, wl1, de1, wo1, th1, tb1, tr1, tg1, ts1, tk1, stack1, top1) ∧ RowE R cr1 sn1 c d))) a b := by
  have hR9 := hI.1.1
  have hP4 := hI.1.2.1
  have hpe : people = nn P := hL.2.1
  have hru : rungs = nn R := hL.1
  have hH : HPs R P S0 sign clause clauses fo := hps_r hL hf hE
  refine iter_twoEF (B := (fun (z : (Nat → Int32) × Int32 × (Nat → Int32) × (Nat → Int32) × (Nat → Int64) × Int32 × Int32 × (Nat → Int32) × (Nat → Int32) × (Nat → Int32) × (Nat → Int32) × (Nat → Int64) × Int32 × Int32) => f3_fits_B27 (nn Lm) notes nh nr nm people tw1 (nn n) (nn c) rungs room strength weight told nc code ns sumEnd nt testEnd z.1 z.2.1 z.2.2.1 z.2.2.2.1 z.2.2.2.2.1 z.2.2.2.2.2.1 z.2.2.2.2.2.2.1 z.2.2.2.2.2.2.2.1 z.2.2.2.2.2.2.2.2.1 z.2.2.2.2.2.2.2.2.2.1 z.2.2.2.2.2.2.2.2.2.2.1 z.2.2.2.2.2.2.2.2.2.2.2.1 z.2.2.2.2.2.2.2.2.2.2.2.2.1 z.2.2.2.2.2.2.2.2.2.2.2.2.2)) (C := fitB n fo sign clause clauses) (n := 61)
    (I := fun n9 a b => ∃ k, n9 + k = 61 ∧ k ≤ Lm + 1 ∧ a.2.2.2.2.2.2.2.2.2.2.2.2.2 = nn k ∧ b.2.2.2.2.2.2.2.2.2 = nn k ∧ b.2.2.2.2.2.2.2.2.1 = 1 ∧ RWd b.2.2.2.1 (nn k) a.2.2.2.2.2.2.1 a.2.2.2.2.2.2.2.1 a.2.2.2.2.2.2.2.2.1 tw1 a.2.2.2.2.2.2.2.2.2.1 a.2.2.2.2.2.2.2.2.2.2.1 ∧ a.2.2.2.2.2.1 = nn k ∧ IV R P b.2.2.2.1 ∧ St S0 b.2.2.2.1 ∧ offR c cr a.1 ∧ offR d sn b.2.2.2.2.2.2.2.1 ∧ (n < k → RowE R a.1 b.2.2.2.2.2.2.2.1 c d))
    (Po := fun e f => ∃ st1 tp1 wd1 S1 wi1 mo1 bk1 sn1 is1 cr1 hb1 wl1 de1 wo1 th1 tb1 tr1 tg1 ts1 tk1 stack1 top1, f = (st1, tp1, wd1, S1, wi1, mo1, bk1, sn1, is1) ∧ (IV R P S1 ∧ St S0 S1) ∧ offR d sn sn1 ∧ offR c cr cr1 ∧ ((is1 = 0 ∧ e = .inl (0, cr1, hb1, wl1, de1, wo1, th1, tb1, tr1, tg1, tw1, ts1, tk1, stack1, top1)) ∨ (is1 = 1 ∧ e = .inr (cr1, hb1, wl1, de1, wo1, th1, tb1, tr1, tg1, ts1, tk1, stack1, top1) ∧ RowE R cr1 sn1 c d)))
    ⟨0, rfl, by omega, rfl, rfl, rfl, hW, hth, hI, St.rf, offR.rf, offR.rf, fun h => absurd h (Nat.not_lt_zero _)⟩ (by omega) ?_
  rintro n9 ⟨cr2, hb2, wl2, de2, wo2, th2, tb2, tr2, tg2, ts2, tk2, stack2, top2, i⟩ ⟨st2, tp2, wd2, S2, wil2, mov2, bk2, sn2, is2, j⟩ ⟨k, hk, hkL, rfl, rfl, rfl, hWk, rfl, hIk, hSk, hcr, hsn, hrow⟩
  dsimp only at hWk hIk hSk hcr hsn hrow ⊢
  by_cases hkLm : k ≤ Lm
  · obtain ⟨w, w1, w2, w3, w4⟩ := r_areNotes (by omega) hIk.1 (hN.cells hSk) hWk
    obtain ⟨v, br, will', deed', words', b', rung', grip', slips', worn', stack', top', st', tp', wd', S', wil', moved', m1, m2, m3, m4, m5, m6⟩ := r_spend (hb0 := hb2) (bk0 := bk2) (top := top2) (tp := tp2) (will0 := wl2) (deed0 := de2) (wil0 := wil2) (moved0 := mov2) (words := wo2) (stack := stack2) (st := st2) (wd := wd2) hIk hWk (hL.st hSk hR9) hf hE
    have h63 := m_fit63 (sn := sn2) (k := k) (n := n) hd hq (by omega) (by omega) hIk.1
    have e34 := m_fit34 (is_ := 1) (by omega) w2 w3 h63 m2
    rw [if_neg (show ¬ (1 : Int32) = 0 by decide)] at e34
    have hk1 : nn k + 1 = nn (k + 1) := nn_succ k
    rcases w3 with rfl | rfl
    · right
      have hG1 : GW R P S0 (k + 1) S' := ⟨m4, hSk.tr m5, _, _, _, _, _, _, hk1 ▸ m3⟩
      have eB : f3_fits_B27 (nn Lm) notes nh nr nm people tw1 (nn n) (nn c) rungs room strength weight told nc code ns sumEnd nt testEnd cr2 hb2 wl2 de2 wo2 (nn k) tb2 tr2 tg2 ts2 tk2 stack2 top2 (nn k) = some (.inr (.inl (0, cr2, hb2, wl2, de2, wo2, nn k, tb2, tr2, tg2, tw1, ts2, tk2, stack2, top2))) := by
        unfold f3_fits_B27
        rw [if_neg (nlt (by omega) (by omega) (by omega)), hpe, w1, bnd1_s, if_pos rfl]
      refine ⟨_, eB, fun f hf9 => ?_⟩
      obtain ⟨f, rfl⟩ : ∃ f', f = f' + 1 := ⟨f - 1, by omega⟩
      have e : fitB n fo sign clause clauses (st2, tp2, wd2, S2, wil2, mov2, bk2, sn2, 1, nn k) = _ := e34
      rw [iter, e]
      obtain ⟨st3, tp3, wd3, S3, wi3, mo3, bk3, sn3, q1, q2, q3, q4⟩ := m_tail (n := n) hd hq (by omega) hN hH (n9 - 1) (k + 1) f _ _ _ _ _ _ _ (if k = n then stF (gR S2) P d R sn2 else sn2) 0 (by omega) (by omega) hG1 (Or.inl rfl)
      refine ⟨_, q1, st3, tp3, wd3, S3, wi3, mo3, bk3, sn3, 0, cr2, hb2, wl2, de2, wo2, _, tb2, tr2, tg2, ts2, tk2, stack2, top2, rfl, q2, fun j hj => ?_, hcr, Or.inl ⟨rfl, rfl⟩⟩
      rw [q3 j hj]
      split
      · exact (offR.st (g := gR S2) (P := P) hR9 hsn) j hj
      · exact hsn j hj
    · left
      have eB : f3_fits_B27 (nn Lm) notes nh nr nm people tw1 (nn n) (nn c) rungs room strength weight told nc code ns sumEnd nt testEnd cr2 hb2 wl2 de2 wo2 (nn k) tb2 tr2 tg2 ts2 tk2 stack2 top2 (nn k) = some (.inl ((if k = n then stF (gR S2) P c R cr2 else cr2), br, will', deed', words', nn (k + 1), b', rung', grip', slips', worn', stack', top', nn (k + 1))) := by
        unfold f3_fits_B27 f3_fits_J57
        rw [if_neg (nlt (by omega) (by omega) (by omega)), hpe, w1, bnd1_s, if_neg (show ¬ (1 : Int32) = 0 by decide), hru, c_keepCrowds hc hR9 hP4, bnd1_s, ← hru, ← hpe, m1, bnd13_s, lt_df, hk1, stF_congr (g' := gR S2) (fun p hp => hWk.2.2.1 p (by omega))]
        by_cases e : k = n
        · rw [if_pos (show nn k = nn n by rw [e]), if_pos e]
        · rw [if_neg (nne (by omega) (by omega) e), if_neg e, bnd13_s, lt_df]
      refine ⟨_, _, n9 - 1, eB, e34, by omega, k + 1, by omega, by omega, rfl, rfl, rfl, hk1 ▸ m3, rfl, m4, hSk.tr m5, ?_, ?_, fun h => ?_⟩
      · dsimp only
        split
        · exact offR.st hR9 hcr
        · exact hcr
      · dsimp only
        split
        · exact offR.st hR9 hsn
        · exact hsn
      · dsimp only
        by_cases e : k = n
        · rw [if_pos e, if_pos e]; exact RowE.st hP4
        · rw [if_neg e, if_neg e]; exact hrow (by omega)
  · right
    have hkk : k = Lm + 1 := by omega
    have eB : f3_fits_B27 (nn Lm) notes nh nr nm people tw1 (nn n) (nn c) rungs room strength weight told nc code ns sumEnd nt testEnd cr2 hb2 wl2 de2 wo2 (nn k) tb2 tr2 tg2 ts2 tk2 stack2 top2 (nn k) = some (.inr (.inr (cr2, hb2, wl2, de2, wo2, nn k, tb2, tr2, tg2, ts2, tk2, stack2, top2))) := by
      unfold f3_fits_B27
      rw [if_pos (nltT (by omega) (by omega) (by omega))]
    refine ⟨_, eB, fun f hf9 => ?_⟩
    obtain ⟨st3, tp3, wd3, S3, wi3, mo3, bk3, sn3, q1, q2, q3, q4⟩ := m_tail (n := n) hd hq (by omega) hN hH n9 k f st2 tp2 wd2 S2 wil2 mov2 bk2 sn2 1 (by omega) hf9 ⟨hIk, hSk, _, _, _, _, _, _, hWk⟩ (Or.inr ⟨rfl, by omega, fun n2 i g a b c d e => by have := hNl n2 i g a b c d e; omega⟩)
    have hs := q4 (by omega)
    subst hs
    exact ⟨_, q1, st3, tp3, wd3, S3, wi3, mo3, bk3, sn3, 1, cr2, hb2, wl2, de2, wo2, _, tb2, tr2, tg2, ts2, tk2, stack2, top2, rfl, q2, hsn, hcr, Or.inr ⟨rfl, rfl, hrow (by omega)⟩⟩
theorem r_fits {nc ns nt : Nat} {code sumEnd testEnd : Nat → Int32} {wo stack : Nat → Int64} {top : Int32} {c d n : Nat} (hc : c < 7) (hd : d < 7) (hq : fo + 1 = nn d) (hn : n < 61) (hI : IV R P S) (hL : RLd R P S rungs people room strength weight told) (hB : RBg R P S sbr told srg swt) (hN : RNo S notes nh nr nm) (hf : ¬ fo < 0) (hE : REv nc code ns sumEnd nt testEnd sign clause clauses fo) :
    ∃ v cr1 hb1 wl1 de1 wo1 th1 tb1 tr1 tg1 tw1 ts1 tk1 stack1 top1 st1 tp1 wd1 S0 S1 wi1 mo1 bk1 sn1, f3_fits (nn c) cr hb wl de wo th tb tr tg tw ts tk notes nh nr nm rungs people sbr room strength weight told srg swt nc code ns sumEnd nt testEnd stack top (nn n) = some (v, cr1, hb1, wl1, de1, wo1, th1, tb1, tr1, tg1, tw1, ts1, tk1, stack1, top1) ∧ f12_begins S = some S0 ∧ iter (fitB n fo sign clause clauses) FUEL (st, tp, wd, S0, wil, mov, bk, sn, (1 : Int32), (0 : Int32)) = some (st1, tp1, wd1, S1, wi1, mo1, bk1, sn1, v) ∧ (IV R P S1 ∧ St S S1) ∧ offR d sn sn1 ∧ offR c cr cr1 ∧ (v = 0 ∨ (v = 1 ∧ RowE R cr1 sn1 c d)) := by
  obtain ⟨tr0, tg0, tw0, ts0, tk0, S0, b1, b2, b3, b4, b5⟩ := r_begins (th := th) (tb := tb) (tr := tr) (tg := tg) (tw := tw) (ts := ts) (tk := tk) hI.1 hB
  obtain ⟨L, l1, l2, l3⟩ := c_lastNoted hN
  have hx : (if nn L < nn n then nn n else nn L) = nn (max L n) := by
    by_cases h : L < n
    · rw [if_pos (nltT (by omega) (by omega) h), Nat.max_eq_right (by omega)]
    · rw [if_neg (nlt (by omega) (by omega) h), Nat.max_eq_left (by omega)]
  obtain ⟨a, b, e1, e2, st1, tp1, wd1, S1, wi1, mo1, bk1, sn1, is1, cr1, hb1, wl1, de1, wo1, th1, tb1, tr1, tg1, ts1, tk1, stack1, top1, rfl, q1, q2, q3, q4⟩ := r_fits27 (hb := hb) (wl := wl) (de := de) (wo := wo) (stack := stack) (top := top) (cr := cr) (st := st) (tp := tp) (wd := wd) (wil := wil) (mov := mov) (bk := bk) (sn := sn) hc hd hq (show n ≤ max L n from Nat.le_max_right _ _) (show max L n < 61 by omega) (fun n2 i g a b c d e => Nat.le_trans (l3 n2 i g a b c d e) (Nat.le_max_left _ _)) b4 b3 rfl (hL.st b5 hI.1.1) (hN.cells b5) hf hE
  unfold f3_fits
  rw [b1, bnd7_s, l2, bnd1_s, hx, lt_df, e1]
  rcases q4 with ⟨rfl, rfl⟩ | ⟨rfl, rfl, q5⟩
  · rw [bndS13_l]
    exact ⟨_, _, _, _, _, _, _, _, _, _, _, _, _, _, _, st1, tp1, wd1, S0, S1, wi1, mo1, bk1, sn1, rfl, b2, e2, ⟨q1.1, b5.tr q1.2⟩, q2, q3, Or.inl rfl⟩
  · rw [bndS13_r]
    exact ⟨_, _, _, _, _, _, _, _, _, _, _, _, _, _, _, st1, tp1, wd1, S0, S1, wi1, mo1, bk1, sn1, rfl, b2, e2, ⟨q1.1, b5.tr q1.2⟩, q2, q3, Or.inr ⟨rfl, q5⟩⟩
end
