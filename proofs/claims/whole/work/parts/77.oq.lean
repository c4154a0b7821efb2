/-! ladder: the answer, and what it lays -/
theorem bit_lo : ∀ bb, bb < 512 → ∀ r, r < 9 → (bt bb r = 1 → (nn (bb % 2 ^ r) ||| ((1 : Int32) <<< (nn r &&& 31))) = nn (bb % 2 ^ (r + 1))) ∧ (bt bb r = 0 → bb % 2 ^ r = bb % 2 ^ (r + 1)) := by decide +kernel
theorem bt0 : ∀ r, r < 9 → bt 0 r = 0 := by decide +kernel
/-- what a text that was read lays for the class's world to begin with -/
def BgW (S : Nat → Int32) (sbr : Int32) (told srg swt : Nat → Int32) : Prop := ∀ (h b : Int32) (rg gr wt sl wn : Nat → Int32), ∃ rg1 gr1 wt1 sl1 wn1, f10_begin h b rg gr wt sl wn sbr told srg swt = some (0, sbr, rg1, gr1, wt1, sl1, wn1) ∧ RWd S 0 sbr rg1 gr1 wt1 sl1 wn1
section
variable {b : Nat → Nat} {bytes tape : Nat → Int32} {n R P bb : Nat} {rd : Nat → Int32} {rungs people sbr : Int32} {room strength weight told srg swt : Nat → Int32}
theorem LdR.lays {S : Nat → Int32} (hR0 : 0 < R) (h : LdR R P bb rd rungs people sbr room strength weight told srg swt) (hS : ∀ i, i < 110 → S i = if i = 78 then nn bb else if i < 79 then rd i else 0) : IV R P S ∧ RLd R P S rungs people room strength weight told ∧ RBg R P S sbr told srg swt ∧ WTs P S ∧ S 109 = 0 ∧ BgW S sbr told srg swt := by
  obtain ⟨h1, h2, h3, h4, h5, h6, h7, h8, h9, h10, h11, h12, h13, h14, h15, h16, h17⟩ := h
  have hlo : ∀ i, i < 78 → S i = rd i := fun i hi => by rw [hS i (by omega), if_neg (by omega), if_pos (by omega)]
  have hfl : ∀ r, r < 9 → S (13 + 4 * r) = bt bb r := fun r hr => by rw [hlo _ (by omega)]; exact (h12 r hr).2.2.2
  have h78 : S 78 = nn bb := by rw [hS 78 (by decide), if_pos rfl]
  have h109 : S 109 = 0 := by rw [hS 109 (by decide), if_neg (by decide), if_neg (by decide)]
  refine ⟨⟨⟨h1, h2, by rw [hlo 0 (by decide)]; exact h8, by rw [hlo 1 (by decide)]; exact h9, fun r hr => by rw [hfl r hr]; exact bt01 bb h3 r hr, ⟨fun r hr hr9 => by rw [hfl r hr9]; exact h13 r hr hr9, fun r hr hr9 => by rw [hlo _ (by omega)]; exact (h12 r hr9).2.2.1, fun i hi hi2 => by rw [hlo _ (by omega)]; exact h16 i hi hi2⟩, fun p hp => ?_, fun p hp => ?_⟩, fun p hp => ?_, fun p hp => ?_⟩, ⟨h5, h6, fun r hr => ?_, fun r hr => ?_, fun p hp => ?_, fun p hp => ?_⟩, ⟨⟨bb, h3, h7, h78, h13, fun p hp => ?_⟩, fun p hp => ?_, fun p hp hp4 => ?_⟩, fun p hp => ?_, h109, ?_⟩
  · obtain ⟨q1, q2, q3, q4, q5, q6, q7, q8, q9, ⟨w, q10, q11⟩, q12, q13⟩ := h14 p hp
    exact ⟨w, q10, by rw [hlo _ (by omega), q3]; exact q11⟩
  · obtain ⟨q1, q2, q3, q4, q5, q6, q7, q8, q9, q10, q12, ⟨t, q13, q14, q15⟩⟩ := h14 p hp
    exact ⟨t, q13, q14, by rw [hlo _ (by omega), q6]; exact q15⟩
  · obtain ⟨q1, q2, q3, q4, q5, q6, q7, q8, ⟨r, q9, q10, q11⟩, q12⟩ := h14 p hp
    exact Or.inr ⟨r, q9, by rw [hlo _ (by omega), q1]; exact q10, by rw [hfl r (by omega)]; exact q11⟩
  · obtain ⟨q1, q2, q3, q4, q5, q6, q7, q8, q9, q10, q12, ⟨t, q13, q14, q15⟩⟩ := h14 p hp
    exact ⟨t, t, q13, Nat.le_refl _, q14, by rw [hlo _ (by omega), q2]; exact q15, by rw [hlo _ (by omega), q6]; exact q15⟩
  · rw [hlo _ (by omega)]; exact (h12 r (by omega)).1
  · rw [hlo _ (by omega)]; exact (h12 r (by omega)).2.1
  · rw [hlo _ (by omega)]; exact (h14 p hp).2.2.2.2.1.symm
  · rw [hlo _ (by omega)]; exact (h14 p hp).2.2.2.2.2.1.symm
  · obtain ⟨q1, q2, q3, q4, q5, q6, q7, q8, ⟨r, q9, q10, q11⟩, q12⟩ := h14 p hp
    exact ⟨r, q9, by rw [hlo _ (by omega), q7]; exact q10, q11⟩
  · obtain ⟨q1, q2, q3, q4, q5, q6, q7, q8, q9, ⟨w, q10, q11⟩, q12, q13⟩ := h14 p hp
    refine ⟨by rw [hlo _ (by omega)]; exact q6.symm, by rw [hlo _ (by omega)]; exact q7.symm, by rw [hlo _ (by omega)]; exact q8.symm, w, q10, by rw [hlo _ (by omega), q8]; exact q11⟩
  · obtain ⟨q1, q2, q3⟩ := h15 p hp hp4
    exact ⟨q2, q1, q3⟩
  · obtain ⟨q1, q2, q3, q4, q5, q6, q7, q8, q9, q10, ⟨w, q11, q12, q13⟩, q14⟩ := h14 p hp
    exact ⟨w, q11, q12, by rw [hlo _ (by omega), q5]; exact q13⟩
  · intro hh hb rg gr wt sl wn
    obtain ⟨sl1, f1, f2⟩ := fill0 (n := 4) (by omega) sl
    obtain ⟨wn1, f3, f4⟩ := fill0 (n := 9) (by omega) wn
    refine ⟨va_cpy srg rg 0 0 4, va_cpy told gr 0 0 4, va_cpy swt wt 0 0 4, sl1, wn1, ?_, ?_⟩
    · unfold f10_begin
      rw [lt_df, lt_df, lt_df, f1, bnd1_s, f3, bnd1_s]
    · refine ⟨by rw [hlo 2 (by decide)]; exact h10.symm, ⟨bb, h3, h7, hfl⟩, fun p hp => ?_, fun p hp => ?_, fun p hp => ?_, fun p hp => ?_, fun r hr => ?_⟩
      · rw [cpy_at hp, hlo _ (by omega)]
        by_cases c : p < P
        · exact (h14 p c).1.symm
        · rw [h16 _ (by omega) (by omega)]; exact (h15 p (by omega) hp).1
      · rw [cpy_at hp, hlo _ (by omega)]
        by_cases c : p < P
        · exact (h14 p c).2.1.symm
        · rw [h16 _ (by omega) (by omega)]; exact (h15 p (by omega) hp).2.1
      · rw [cpy_at hp, hlo _ (by omega)]
        by_cases c : p < P
        · exact (h14 p c).2.2.1.symm
        · rw [h16 _ (by omega) (by omega)]; exact (h15 p (by omega) hp).2.2
      · rw [f2 p hp, hlo _ (by omega)]
        by_cases c : p < P
        · exact (h14 p c).2.2.2.1.symm
        · exact (h16 _ (by omega) (by omega)).symm
      · rw [f4 r hr, hlo _ (by omega)]
        exact (h12 r hr).2.2.1.symm
def rd0F (k j : Nat) (z : Nat → Int32) : Nat → Int32 := fun i => if i < k then (if 10 ≤ i ∧ i < 10 + 4 * j ∧ i % 4 = 2 then 2 else if 10 ≤ i ∧ i < 10 + 4 * j ∧ i % 4 = 3 then 200 else 0) else z i
theorem m_rd8 {z : Nat → Int32} : iter (fun (z : (Nat → Int32) × Int32) => f12_ladder_B8 z.1 z.2) FUEL (z, (0 : Int32)) = some (rd0F 79 0 z) := by
  refine iter_for (st := fun k => (rd0F k 0 z, nn k)) (n := 79) (out := rd0F 79 0 z) ?_ (by decide) (fun k hk => ?_) ?_
  · show (rd0F 0 0 z, nn 0) = _
    congr 1
  · unfold f12_ladder_B8
    dsimp only
    rw [if_neg (show ¬ (79 : Int32) ≤ nn k from nle (a := 79) (by decide) (by omega) (by omega)), nn_nat (show k < 2147483648 by omega), if_neg (ng (by omega) (by omega)), lt_df, lt_df, nn_succ]
    congr 3
    funext i
    by_cases c : i = k
    · subst c
      rw [upd_at]
      unfold rd0F
      rw [if_pos (by omega), if_neg (by omega), if_neg (by omega)]
    · rw [upd_ne c]
      unfold rd0F
      by_cases c2 : i < k
      · rw [if_pos c2, if_pos (show i < k + 1 by omega)]
      · rw [if_neg c2, if_neg (show ¬ i < k + 1 by omega)]
  · unfold f12_ladder_B8
    dsimp only
    rw [if_pos (show (79 : Int32) ≤ nn 79 from Int32.le_refl _)]
theorem m_rd29 {z : Nat → Int32} : iter (fun (z : (Nat → Int32) × Int32) => f12_ladder_B29 z.1 z.2) FUEL (rd0F 79 0 z, (0 : Int32)) = some (rd0F 79 9 z) := by
  refine iter_for (st := fun k => (rd0F 79 k z, nn k)) (n := 9) (out := rd0F 79 9 z) rfl (by decide) (fun k hk => ?_) ?_
  · have e10 : (10 : Int32) + 4 * nn k = nn (10 + 4 * k) := by rw [show (4 : Int32) * nn k = nn (4 * k) from nn_mul 4 k]; exact nn_add 10 _
    unfold f12_ladder_B29
    dsimp only
    rw [if_neg (show ¬ (9 : Int32) ≤ nn k from nle (a := 9) (by decide) (by omega) (by omega)), e10, nn_succ, nn_nat (show 10 + 4 * k < 2147483648 by omega), if_neg (ng (by omega) (by omega)), lt_df, nn_nat (show 10 + 4 * k + 1 < 2147483648 by omega), if_neg (ng (by omega) (by omega)), lt_df, lt_df, nn_succ]
    congr 3
    funext i
    unfold rd0F
    by_cases c : i = 10 + 4 * k + 1
    · subst c
      rw [upd_at, if_pos (by omega), if_neg (by omega), if_pos (by omega)]
    · rw [upd_ne c]
      by_cases c2 : i = 10 + 4 * k
      · subst c2
        rw [upd_at, if_pos (by omega), if_pos (by omega)]
      · rw [upd_ne c2]
        by_cases c3 : i < 79
        · rw [if_pos c3, if_pos c3]
          by_cases c4 : 10 ≤ i ∧ i < 10 + 4 * k ∧ i % 4 = 2
          · rw [if_pos c4, if_pos (by omega)]
          · rw [if_neg c4, if_neg (show ¬ (10 ≤ i ∧ i < 10 + 4 * (k + 1) ∧ i % 4 = 2) by omega)]
            by_cases c5 : 10 ≤ i ∧ i < 10 + 4 * k ∧ i % 4 = 3
            · rw [if_pos c5, if_pos (by omega)]
            · rw [if_neg c5, if_neg (show ¬ (10 ≤ i ∧ i < 10 + 4 * (k + 1) ∧ i % 4 = 3) by omega)]
        · rw [if_neg c3, if_neg c3]
  · unfold f12_ladder_B29
    dsimp only
    rw [if_pos (show (9 : Int32) ≤ nn 9 from Int32.le_refl _)]
theorem m_said86 {S : Nat → Int32} : iter (fun (z : (Nat → Int32) × Int32) => f12_ladder_B86 rd z.1 z.2) FUEL (S, (0 : Int32)) = some (ov 110 (fun i => if i < 79 then rd i else 0) S) := by
  refine iter_for (st := fun k => (ov k (fun i => if i < 79 then rd i else 0) S, nn k)) (n := 110) (out := ov 110 (fun i => if i < 79 then rd i else 0) S) (by rw [ov_0]; rfl) (by decide) (fun k hk => ?_) ?_
  · have hu := ov_upd (k := k) (f := fun i => if i < 79 then rd i else (0 : Int32)) (g := S)
    unfold f12_ladder_B86 f12_ladder_J113
    dsimp only at hu ⊢
    rw [if_neg (show ¬ (110 : Int32) ≤ nn k from nle (a := 110) (by decide) (by omega) (by omega)), nn_nat (show k < 2147483648 by omega), if_neg (ng (a := k) (n := 110) (by omega) (by omega)), lt_df, lt_df, nn_succ]
    by_cases c : 79 ≤ k
    · rw [if_neg (show ¬ k < 79 by omega)] at hu
      rw [if_pos (show (79 : Int32) ≤ nn k from nleT (a := 79) (by decide) (by omega) c), hu]
    · rw [if_pos (show k < 79 by omega)] at hu
      rw [if_neg (show ¬ (79 : Int32) ≤ nn k from nle (a := 79) (by decide) (by omega) c), if_neg (ng (a := k) (n := 79) (by omega) (by omega)), if_neg (ng (a := k) (n := 110) (by omega) (by omega)), lt_df, lt_df, hu]
  · unfold f12_ladder_B86
    dsimp only
    rw [if_pos (show (110 : Int32) ≤ nn 110 from Int32.le_refl _)]
theorem m_said122 {S : Nat → Int32} (hb : bb < 512) (hf : ∀ r, r < 9 → S (13 + 4 * r) = bt bb r) (h78 : S 78 = 0) : iter (fun (z : (Nat → Int32) × Int32) => f12_ladder_B122 z.1 z.2) FUEL (S, (0 : Int32)) = some (upd S 78 (nn bb)) := by
  have h0 : upd S 78 (nn (bb % 2 ^ 0)) = S := by
    funext i
    by_cases c : i = 78
    · subst c; rw [upd_at, h78, Nat.mod_one]; rfl
    · rw [upd_ne c]
  have h9 : bb % 2 ^ 9 = bb := Nat.mod_eq_of_lt hb
  refine iter_for (st := fun k => (upd S 78 (nn (bb % 2 ^ k)), nn k)) (n := 9) (out := upd S 78 (nn bb)) (by rw [h0]; rfl) (by decide) (fun k hk => ?_) ?_
  · have e13 : ((10 : Int32) + 4 * nn k) + 3 = nn (13 + 4 * k) := by
      rw [show (4 : Int32) * nn k = nn (4 * k) from nn_mul 4 k, show (10 : Int32) + nn (4 * k) = nn (10 + 4 * k) from nn_add 10 _, show nn (10 + 4 * k) + 3 = nn (10 + 4 * k + 3) from nn_add _ 3]
      congr 1
      omega
    obtain ⟨b1, b2⟩ := bit_lo bb hb k hk
    unfold f12_ladder_B122
    dsimp only
    rw [if_neg (show ¬ (9 : Int32) ≤ nn k from nle (a := 9) (by decide) (by omega) (by omega)), e13, nn_nat (show 13 + 4 * k < 2147483648 by omega), if_neg (ng (by omega) (by omega)), lt_df, upd_ne (show 13 + 4 * k ≠ 78 by omega), hf k hk]
    by_cases c : bt bb k = 1
    · rw [if_pos c, upd_at, b1 c, lt_df, lt_df, lt_df, nn_succ]
      congr 3
      funext i
      by_cases c2 : i = 78
      · subst c2; rw [upd_at, upd_at]
      · rw [upd_ne c2, upd_ne c2, upd_ne c2]
    · rw [if_neg c, lt_df, nn_succ, b2 ((bt01 bb hb k hk).resolve_right c)]
  · unfold f12_ladder_B122
    dsimp only
    rw [if_pos (show (9 : Int32) ≤ nn 9 from Int32.le_refl _), h9]
theorem r_ladder {kind sign fault start stop nx wr nu tx ma de li opd ud : Int32} {S sgn len cl cls rdx opn : Nat → Int32} (hx : TX b bytes tape n) (hro : ∀ r, r < 9 → room r = 2) (hst : ∀ r, r < 9 → strength r = 200) (hz : ∀ p, p < 4 → srg p = 0 ∧ told p = 0 ∧ swt p = 0) :
    ∃ len1 rd1 nx1 wr1 nu1 ma1 li1, ((∃ (k1 g1 st1 sp1 : Int32) (R P bb : Nat) (ro1 tr1 w1 t1 sr1 sw1 S1 : Nat → Int32), f2_readInto bytes (nn n) kind sign fault start stop 0 0 0 room strength weight told srg swt = some (1, k1, g1, 0, st1, sp1, nn R, nn P, nn bb, ro1, tr1, w1, t1, sr1, sw1) ∧ f12_ladder tape (nn n) sgn len cl cls rdx nx wr nu tx ma de li opn opd S ud = some (nn P, 0, sgn, len1, cl, cls, rd1, nx1, wr1, nu1, 6, ma1, de, li1, opn, opd, S1, 0) ∧ 0 < R ∧ IV R P S1 ∧ RLd R P S1 (nn R) (nn P) ro1 tr1 w1 t1 ∧ RBg R P S1 (nn bb) t1 sr1 sw1 ∧ WTs P S1 ∧ S1 109 = 0 ∧ BgW S1 (nn bb) t1 sr1 sw1) ∨
      (∃ (w : Nat) (k1 g1 st1 sp1 ru1 pe1 sb1 : Int32) (ro1 tr1 w1 t1 sr1 sw1 : Nat → Int32), f2_readInto bytes (nn n) kind sign fault start stop 0 0 0 room strength weight told srg swt = some (0, k1, g1, nn w, st1, sp1, ru1, pe1, sb1, ro1, tr1, w1, t1, sr1, sw1) ∧ f12_ladder tape (nn n) sgn len cl cls rdx nx wr nu tx ma de li opn opd S ud = some (-2 - nn w, 0, sgn, len1, cl, cls, rd1, nx1, wr1, nu1, 6, ma1, de, li1, opn, opd, S, ud))) := by
  have hn := hx.1
  obtain ⟨s, k1, g1, e, a1, a2, a3⟩ := next_tk (i := 0) (kind := kind) (sign := sign) start hx (Nat.zero_le n)
  have hL : LdR 0 0 0 (rd0F 79 9 rdx) (nn 0) (nn 0) (nn 0) room strength weight told srg swt := by
    refine ⟨by decide, by decide, by decide, fun _ => rfl, rfl, rfl, rfl, rfl, rfl, rfl, rfl, fun r hr => ?_, fun r _ hr => bt0 r hr, fun p hp => absurd hp (Nat.not_lt_zero _), fun p _ hp => hz p hp, fun i h1 h2 => ?_, fun r hr => ⟨2, by decide, ?_⟩⟩
    · rw [hro r hr, hst r hr, bt0 r hr]
      unfold rd0F
      refine ⟨?_, ?_, ?_, ?_⟩
      · rw [if_pos (by omega), if_pos (by omega)]
      · rw [if_pos (by omega), if_neg (by omega), if_pos (by omega)]
      · rw [if_pos (by omega), if_neg (by omega), if_neg (by omega)]
      · rw [if_pos (by omega), if_neg (by omega), if_neg (by omega)]
    · unfold rd0F
      rw [if_pos (by omega), if_neg (by omega), if_neg (by omega)]
    · unfold rd0F
      rw [if_pos (by omega), if_pos (by omega)]
      rfl
  have hF : 40 < FUEL := fuel_400 (by decide)
  have hopen : f9_open bytes (nn n) kind sign fault start stop = some (k1, g1, 0, nn s, nn e) := by
    unfold f9_open
    rw [show f9_advance bytes (nn n) kind sign start 0 = _ from a2, bnd4_s]
  have hcl : f12_ladder tape (nn n) sgn len cl cls rdx nx wr nu tx ma de li opn opd S ud = bnd15 (f12_readsAll tape (nn n) sgn len cl cls (rd0F 79 9 rdx) nx wr nu (nn 6) ma de li opn opd) (fun r_17 z_taped_18 z_sign_19 z_length_20 z_clause_21 z_clauses_22 z_read_23 z_next_24 z_wrong_25 z_number_26 z_made_27 z_deep_28 z_lines_29 z_open_30 z_opened_31 =>
      if r_17 = 0 then (lt ((-2 - z_wrong_25)) (fun x_59 =>
      some (x_59, z_taped_18, z_sign_19, z_length_20, z_clause_21, z_clauses_22, z_read_23, z_next_24, z_wrong_25, z_number_26, 6, z_made_27, z_deep_28, z_lines_29, z_open_30, z_opened_31, S, ud))) else (bnd1 (iter (fun (z : (Nat → Int32) × Int32) => f12_ladder_B86 z_read_23 z.1 z.2) FUEL (S, 0)) (fun z_said_46 =>
      bnd1 (iter (fun (z : (Nat → Int32) × Int32) => f12_ladder_B122 z.1 z.2) FUEL (z_said_46, 0)) (fun z_said_57 =>
      lt ((z_said_57 1)) (fun x_58 =>
      some (x_58, z_taped_18, z_sign_19, z_length_20, z_clause_21, z_clauses_22, z_read_23, z_next_24, z_wrong_25, z_number_26, 6, z_made_27, z_deep_28, z_lines_29, z_open_30, z_opened_31, z_said_57, 0)))))) := by
    unfold f12_ladder
    rw [m_rd8, bnd1_s, m_rd29, bnd1_s]
    rfl
  rcases r_clauses (made := 0) (deep := de) (opd := opd) (sgn := sgn) (len := upd len 6 0) (cl := cl) (cls := cls) (opn := opn) hx 40 0 rfl FUEL FUEL hF hF 0 s e 0 0 0 k1 g1 nu (rd0F 79 9 rdx) room strength weight told srg swt (by decide) a1 a3 hL with ⟨k2, g2, st2, sp2, R, P, bb, ro2, tr2, w2, t2, sr2, sw2, rd2, num2, li2, y1, y2, y3, y4⟩ | ⟨w, k2, g2, st2, sp2, ru2, pe2, sb2, ro2, tr2, w2, t2, sr2, sw2, rd2, nx2, wr2, num2, li2, v2, y1, y2, y3, y4, y5⟩
  · have hA := (m_readsAll (w := 0) (nx := nx) (nu := nu) (ma := ma) (li := li) (a1 := len) (a5 := nx) (a6 := wr) (a8 := ma) (a10 := li) (k := 6) (by decide) hx y2).2.1 rfl rfl rfl
    obtain ⟨h1, h2, h3, h4, h5, h6, h7, h8, h9, h10, h11, h12, h13, h14, h15, h16, h17⟩ := id y4
    have hsd : ∀ i, i < 110 → upd (ov 110 (fun i => if i < 79 then rd2 i else 0) S) 78 (nn bb) i = if i = 78 then nn bb else if i < 79 then rd2 i else 0 := by
      intro i hi
      by_cases c : i = 78
      · subst c; rw [upd_at, if_pos rfl]
      · rw [upd_ne c, if_neg c, ov_lt hi]
    obtain ⟨l1, l2, l3, l4, l5, l6⟩ := y4.lays (S := upd (ov 110 (fun i => if i < 79 then rd2 i else 0) S) 78 (nn bb)) y3 hsd
    have h122 := m_said122 (S := ov 110 (fun i => if i < 79 then rd2 i else 0) S) h3 (fun r hr => by rw [ov_lt (by omega)]; show (if 13 + 4 * r < 79 then rd2 (13 + 4 * r) else 0) = _; rw [if_pos (by omega)]; exact (h12 r hr).2.2.2) (by rw [ov_lt (by decide)]; exact h11)
    have hP1 : upd (ov 110 (fun i => if i < 79 then rd2 i else 0) S) 78 (nn bb) 1 = nn P := by rw [hsd 1 (by decide), if_neg (by decide), if_pos (by decide)]; exact h9
    have hc : f2_readInto bytes (nn n) kind sign fault start stop 0 0 0 room strength weight told srg swt = some (1, k2, g2, 0, st2, sp2, nn R, nn P, nn bb, ro2, tr2, w2, t2, sr2, sw2) := by
      unfold f2_readInto
      unfold CBl at y1
      rw [hopen, bnd5_s]
      rw [show iter _ FUEL (k1, g1, (0 : Int32), nn s, nn e, (0 : Int32), (0 : Int32), (0 : Int32), room, strength, weight, told, srg, swt, (0 : Int32)) = _ from y1, bndS14_l]
    have hm : f12_ladder tape (nn n) sgn len cl cls rdx nx wr nu tx ma de li opn opd S ud = some (nn P, 0, sgn, upd len 6 0, cl, cls, rd2, nn n, 0, num2, 6, 0, de, li2, opn, opd, upd (ov 110 (fun i => if i < 79 then rd2 i else 0) S) 78 (nn bb), 0) := by
      rw [hcl, hA, bnd15_s, if_neg (show ¬ (1 : Int32) = 0 by decide), m_said86, bnd1_s, h122, bnd1_s, hP1, lt_df]
    exact ⟨_, _, _, _, _, _, _, Or.inl ⟨k2, g2, st2, sp2, R, P, bb, ro2, tr2, w2, t2, sr2, sw2, _, hc, hm, y3, l1, l2, l3, l4, l5, l6⟩⟩
  · unfold CBl at y3
    have hc : f2_readInto bytes (nn n) kind sign fault start stop 0 0 0 room strength weight told srg swt = some (0, k2, g2, nn w, st2, sp2, ru2, pe2, sb2, ro2, tr2, w2, t2, sr2, sw2) := by
      unfold f2_readInto
      rw [hopen, bnd5_s]
      rw [show iter _ FUEL (k1, g1, (0 : Int32), nn s, nn e, (0 : Int32), (0 : Int32), (0 : Int32), room, strength, weight, told, srg, swt, (0 : Int32)) = _ from y3, bndS14_l]
    have hm := m_readsAll (w := w) (nx := nx) (nu := nu) (ma := ma) (li := li) (a1 := len) (a5 := nx) (a6 := wr) (a8 := ma) (a10 := li) (k := 6) (by decide) hx y4
    rcases y5 with ⟨h1, h2⟩ | ⟨h1, h2, s', h3, h4, h5, rfl⟩
    · have hA := hm.1 h1 h2 y1 y2
      exact ⟨upd len 6 0, rd2, nx2, nn w, num2, 0, li2, Or.inr ⟨w, k2, g2, st2, sp2, ru2, pe2, sb2, ro2, tr2, w2, t2, sr2, sw2, hc, by rw [hcl, hA, bnd15_s, if_pos rfl, lt_df]⟩⟩
    · have hA := hm.2.2 s' h1 h2 h3 h4 h5
      exact ⟨upd len 6 0, rd2, nx2, nn (1 + 8 * s'), num2, 0, li2, Or.inr ⟨_, k2, g2, st2, sp2, ru2, pe2, sb2, ro2, tr2, w2, t2, sr2, sw2, hc, by rw [hcl, hA, bnd15_s, if_pos rfl, lt_df]⟩⟩
end
