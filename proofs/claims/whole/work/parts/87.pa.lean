/-! a rule's text, whole -/
def XBl (bytes : Nat → Int32) (n : Nat) : (Nat → Int32) × (Nat → Int32) × (Nat → Int32) × Int32 × Int32 × Int32 × Int32 × Int32 × Int32 × Int32 × Int32 × Int32 → Option (((Nat → Int32) × (Nat → Int32) × (Nat → Int32) × Int32 × Int32 × Int32 × Int32 × Int32 × Int32 × Int32 × Int32 × Int32) ⊕ ((Int32 × (Nat → Int32) × (Nat → Int32) × (Nat → Int32) × Int32 × Int32 × Int32 × Int32 × Int32 × Int32 × Int32 × Int32) ⊕ ((Nat → Int32) × (Nat → Int32) × (Nat → Int32) × Int32 × Int32 × Int32 × Int32 × Int32 × Int32 × Int32 × Int32))) := (fun (z : (Nat → Int32) × (Nat → Int32) × (Nat → Int32) × Int32 × Int32 × Int32 × Int32 × Int32 × Int32 × Int32 × Int32 × Int32) => f6_readText_B24 bytes (nn n) z.1 z.2.1 z.2.2.1 z.2.2.2.1 z.2.2.2.2.1 z.2.2.2.2.2.1 z.2.2.2.2.2.2.1 z.2.2.2.2.2.2.2.1 z.2.2.2.2.2.2.2.2.1 z.2.2.2.2.2.2.2.2.2.1 z.2.2.2.2.2.2.2.2.2.2.1 z.2.2.2.2.2.2.2.2.2.2.2)
section
variable {b : Nat → Nat} {bytes tape : Nat → Int32} {n k : Nat} {sg0 cl0 cls0 : Nat → Int32}
theorem r_clausesR {rd : Nat → Int32} (hk : k < 6) (hx : TX b bytes tape n) : ∀ (d m : Nat), m + d = 12 → ∀ (fc fr : Nat), d < fc → d < fr → ∀ (i s e u : Nat) (kind sign num de od : Int32) (code sumEnd testEnd sgn len clause clauses opn : Nat → Int32) (size : Int32) (cs : CLS), cs.length = m → u ≤ 60 → (flt cs).length ≤ i → Rn isSp b n i s → Tk b n s kind sign e → RTc cs code sumEnd testEnd size → RTm cs k sg0 cl0 cls0 sgn len clause clauses → RTo cs u →
    (∃ (cs1 : CLS) (u1 : Nat) (k1 g1 st1 sp1 size1 num1 de1 li1 od1 : Int32) (code1 sumEnd1 testEnd1 sgn1 len1 clause1 clauses1 opn1 : Nat → Int32), iter (XBl bytes n) fc (code, sumEnd, testEnd, size, nn m, nn u, kind, sign, (0 : Int32), nn s, nn e, nn m) = some (.inl (1, code1, sumEnd1, testEnd1, size1, nn cs1.length, nn u1, k1, g1, 0, st1, sp1)) ∧ clsF tape (nn n) (nn k) fr sgn len clause clauses rd (nn i) 0 num (nn u) de (nn m) opn od = some (sgn1, len1, clause1, clauses1, rd, nn n, 0, num1, nn u1, de1, li1, opn1, od1, 1) ∧ RTc cs1 code1 sumEnd1 testEnd1 size1 ∧ RTm cs1 k sg0 cl0 cls0 sgn1 len1 clause1 clauses1 ∧ RTo cs1 u1 ∧ u1 ≤ 60 ∧ cs1.length ≤ 12 ∧ (flt cs1).length ≤ 400) ∨
    (∃ (w : Nat) (k1 g1 st1 sp1 size1 cn1 u1 : Int32) (code1 sumEnd1 testEnd1 sgn1 len1 clause1 clauses1 opn1 : Nat → Int32) (nx wr num1 ma1 de1 li1 od1 v1 : Int32), 0 < w ∧ w < 5000 ∧ FR k sg0 sgn1 ∧ FRc k cl0 cls0 clause1 clauses1 ∧ iter (XBl bytes n) fc (code, sumEnd, testEnd, size, nn m, nn u, kind, sign, (0 : Int32), nn s, nn e, nn m) = some (.inl (0, code1, sumEnd1, testEnd1, size1, cn1, u1, k1, g1, nn w, st1, sp1)) ∧ clsF tape (nn n) (nn k) fr sgn len clause clauses rd (nn i) 0 num (nn u) de (nn m) opn od = some (sgn1, len1, clause1, clauses1, rd, nx, wr, num1, ma1, de1, li1, opn1, od1, v1) ∧ ((v1 = 0 ∧ wr = nn w) ∨ (v1 = 1 ∧ wr = 0 ∧ ∃ s', s' < n ∧ isSp (b s') = false ∧ nx = nn s' ∧ w = 1 + 8 * s'))) := by
  have hn := hx.1
  intro d
  induction d with
  | zero =>
    intro m hm fc fr hfc hfr i s e u kind sign num de od code sumEnd testEnd sgn len clause clauses opn size cs hcs hu hl h ht hC hM hO
    obtain ⟨fc, rfl⟩ : ∃ f, fc = f + 1 := ⟨fc - 1, by omega⟩
    obtain ⟨fr, rfl⟩ : ∃ f, fr = f + 1 := ⟨fr - 1, by omega⟩
    rcases r_clauseR (rd := rd) (num := num) (de := de) (od := od) (opn := opn) (m := m) hk hx h ht hcs (by omega) hu hl hC hM hO with ⟨s1, e1, i1, u1, k1, g1, num1, de1, od1, size1, code1, sumEnd1, sgn1, len1, clause1, clauses1, opn1, x, x0, -⟩ | ⟨w, code1, sumEnd1, size1, u1, k1, g1, st1, sp1, sgn1, len1, clause1, clauses1, opn1, nx1, num1, ma1, de1, li1, od1, x1, x2, x3, x4, x5, x6⟩
    · omega
    · right
      exact ⟨w, k1, g1, st1, sp1, size1, _, u1, code1, sumEnd1, testEnd, sgn1, len1, clause1, clauses1, opn1, nx1, nn w, num1, ma1, de1, li1, od1, 0, x1, x2, x3, x4, iter_r (by unfold XBl; exact x5) fc, cls_bad x6, Or.inl ⟨rfl, rfl⟩⟩
  | succ d ih =>
    intro m hm fc fr hfc hfr i s e u kind sign num de od code sumEnd testEnd sgn len clause clauses opn size cs hcs hu hl h ht hC hM hO
    obtain ⟨fc, rfl⟩ : ∃ f, fc = f + 1 := ⟨fc - 1, by omega⟩
    obtain ⟨fr, rfl⟩ : ∃ f, fr = f + 1 := ⟨fr - 1, by omega⟩
    rcases r_clauseR (rd := rd) (num := num) (de := de) (od := od) (opn := opn) (m := m) hk hx h ht hcs (by omega) hu hl hC hM hO with ⟨s1, e1, i1, u1, k1, g1, num1, de1, od1, size1, code1, sumEnd1, sgn1, len1, clause1, clauses1, opn1, x, x0, x1, x2, x3, x4, x5, x6, x7, x8, x9, x10⟩ | ⟨w, code1, sumEnd1, size1, u1, k1, g1, st1, sp1, sgn1, len1, clause1, clauses1, opn1, nx1, num1, ma1, de1, li1, od1, x1, x2, x3, x4, x5, x6⟩
    · have hsee := m_see hx x6
      have hi1 := x6.1
      have hlen : (cs ++ [x]).length = m + 1 := by rw [List.length_append, hcs]; rfl
      have hb9 : XBl bytes n (code, sumEnd, testEnd, size, nn m, nn u, kind, sign, (0 : Int32), nn s, nn e, nn m) = (if k1 = 0 then some (.inr (.inl (1, code1, sumEnd1, upd testEnd m size1, size1, nn (m + 1), nn u1, k1, g1, 0, nn s1, nn e1))) else (bnd1 (f9_isAt k1 g1 59) (fun r_83 =>
          if r_83 = 0 then (bnd2 (f9_refuse 0 (nn s1) 0) (fun r_92 f93 => if r_92 = 0 ∨ r_92 = 1 then some (.inr (.inl (r_92, code1, sumEnd1, upd testEnd m size1, size1, nn (m + 1), nn u1, k1, g1, f93, nn s1, nn e1))) else none)) else (bnd4 (f9_advance bytes (nn n) k1 g1 (nn s1) (nn e1)) (fun k86 g87 s88 s89 =>
          lt (nn m + 1) (fun v1_91 => some (.inl (code1, sumEnd1, upd testEnd m size1, size1, nn (m + 1), nn u1, k86, g87, 0, s88, s89, v1_91))))))))  := by
        have : XBl bytes n (code, sumEnd, testEnd, size, nn m, nn u, kind, sign, (0 : Int32), nn s, nn e, nn m) = f6_readText_B24 bytes (nn n) code sumEnd testEnd size (nn m) (nn u) kind sign 0 (nn s) (nn e) (nn m) := rfl
        rw [this, x4]
        unfold f6_readText_J127
        rw [nn_nat (show m < 2147483648 by omega), if_neg (ng (by omega) (by omega)), lt_df, nn_succ, lt_df]
      rcases x7.isAt (c := 59) hx (by decide) (by decide) (by decide) (by decide) (by decide) with ⟨q1, q2, q3, q4⟩ | ⟨q1, q2⟩
      · have hk1 : ¬ k1 = 0 := by
          intro h0
          rw [h0] at q4
          unfold f9_isAt at q4
          rw [if_neg (show ¬ (0 : Int32) = 3 by decide)] at q4
          exact absurd (Option.some.inj q4) (by decide)
        obtain ⟨s2, k2, g2, e2, t1', t2, t3⟩ := next_tk (kind := k1) (sign := g1) (nn s1) hx x7.se.2.1
        rw [if_pos q1, q2] at hsee
        rw [if_neg hk1, show f9_isAt k1 g1 59 = some 1 from q4, bnd1_s, if_neg (show ¬ (1 : Int32) = 0 by decide), t2, bnd4_s, lt_df, nn_succ] at hb9
        have hi2 : e1 = s1 + 1 := q3
        have ih2 := ih (m + 1) (by omega) fc fr (by omega) (by omega) e1 s2 e2 u1 k2 g2 num1 de1 od1 code1 sumEnd1 (upd testEnd m size1) sgn1 len1 clause1 clauses1 opn1 size1 (cs ++ [x]) hlen x2 (by omega) t1' t3 x8 x9 x10
        rw [hi2, ← nn_succ s1] at ih2
        rcases ih2 with ⟨cs3, u3, k3, g3, st3, sp3, size3, num3, de3, li3, od3, code3, sumEnd3, testEnd3, sgn3, len3, clause3, clauses3, opn3, y1, y2, y3⟩ | ⟨w, k3, g3, st3, sp3, size3, cn3, u3, code3, sumEnd3, testEnd3, sgn3, len3, clause3, clauses3, opn3, nx3, wr3, num3, ma3, de3, li3, od3, v3, y1, y2, y3, y4, y5, y6, y7⟩
        · left
          exact ⟨cs3, u3, k3, g3, st3, sp3, size3, num3, de3, li3, od3, code3, sumEnd3, testEnd3, sgn3, len3, clause3, clauses3, opn3, (iter_l hb9 fc).trans y1, cls_on x5 hsee y2 (fun _ _ => trivial) (by simp), y3⟩
        · right
          exact ⟨w, k3, g3, st3, sp3, size3, cn3, u3, code3, sumEnd3, testEnd3, sgn3, len3, clause3, clauses3, opn3, nx3, wr3, num3, ma3, de3, li3, od3, v3, y1, y2, y3, y4, (iter_l hb9 fc).trans y5, cls_on x5 hsee y6 (fun _ _ => trivial) (by simp), y7⟩
      · rcases x7.2 with ⟨z1, z2, z3⟩ | ⟨z1, z2, z3, z4, z5⟩
        · left
          rw [if_neg (show ¬ s1 < n by omega)] at hsee
          rw [if_pos z3, ← hlen] at hb9
          refine ⟨cs ++ [x], u1, k1, g1, nn s1, nn e1, size1, num1, de1, nn (m + 1), od1, code1, sumEnd1, upd testEnd m size1, sgn1, len1, clause1, clauses1, opn1, iter_r hb9 fc, ?_, x8, x9, x10, x2, by omega, by omega⟩
          rw [cls_end x5 hsee (by decide), z1]
        · right
          have hb := (hx.2 s1 z1).1
          have hk1 : ¬ k1 = 0 := by
            rcases z5 with ⟨-, h, -⟩ | ⟨-, h, -⟩ | ⟨-, -, h, -⟩ <;> rw [h] <;> decide
          rw [if_pos z1] at hsee
          rw [if_neg hk1, show f9_isAt k1 g1 59 = some 0 from q2, bnd1_s, if_pos rfl, show f9_refuse 0 (nn s1) 0 = _ from c_refuse 0 s1 0, bnd2_s, if_pos (Or.inl rfl)] at hb9
          exact ⟨1 + 8 * s1, _, _, _, _, _, _, _, _, _, _, _, _, _, _, _, _, _, _, _, _, _, _, 1, by omega, by omega, x9.1.2.2, x9.2.2.2, iter_r hb9 fc, cls_end x5 hsee (nne (b := 59) (by omega) (by decide) (q1 z1)), Or.inr ⟨rfl, rfl, s1, z1, z2, rfl, rfl⟩⟩
    · right
      exact ⟨w, k1, g1, st1, sp1, size1, _, u1, code1, sumEnd1, testEnd, sgn1, len1, clause1, clauses1, opn1, nx1, nn w, num1, ma1, de1, li1, od1, 0, x1, x2, x3, x4, iter_r (by unfold XBl; exact x5) fc, cls_bad x6, Or.inl ⟨rfl, rfl⟩⟩
/-- rule: the answer, and what it lays -/
theorem r_rule {kind sign fault start stop size cn vals nx wr nu tx ma de li od : Int32} {code sumEnd testEnd sgn len clause clauses rd opn : Nat → Int32} (hk : k < 6) (hx : TX b bytes tape n) :
    ∃ sgn1 len1 clause1 clauses1 nx1 wr1 nu1 ma1 de1 li1 opn1 od1, FR k sgn sgn1 ∧ FRc k clause clauses clause1 clauses1 ∧ ((∃ (cs : CLS) (u1 k1 g1 st1 sp1 : Int32) (code1 sumEnd1 testEnd1 : Nat → Int32), f6_readText code sumEnd testEnd size cn vals bytes (nn n) kind sign fault start stop = some (1, code1, sumEnd1, testEnd1, nn (flt cs).length, nn cs.length, u1, k1, g1, 0, st1, sp1) ∧ f12_rule tape (nn n) (nn k) sgn len clause clauses rd nx wr nu tx ma de li opn od = some (nn k, 0, nn (k + 1), sgn1, len1, clause1, clauses1, rd, nx1, wr1, nu1, nn k, ma1, de1, li1, opn1, od1) ∧ RuOK cs ∧ RuM cs sgn1 clause1 clauses1 k ∧ (∀ i (h : i < (flt cs).length), code1 i = nn (encC (flt cs)[i])) ∧ ∀ c (h : c < cs.length), sumEnd1 c = nn (off cs c + cs[c].1.length) ∧ testEnd1 c = nn (off cs (c + 1))) ∨
      (∃ (w : Nat) (size1 cn1 u1 k1 g1 st1 sp1 : Int32) (code1 sumEnd1 testEnd1 : Nat → Int32), f6_readText code sumEnd testEnd size cn vals bytes (nn n) kind sign fault start stop = some (0, code1, sumEnd1, testEnd1, size1, cn1, u1, k1, g1, nn w, st1, sp1) ∧ f12_rule tape (nn n) (nn k) sgn len clause clauses rd nx wr nu tx ma de li opn od = some (-2 - nn w, 0, nn k, sgn1, len1, clause1, clauses1, rd, nx1, wr1, nu1, nn k, ma1, de1, li1, opn1, od1))) := by
  have hn := hx.1
  obtain ⟨s, k1, g1, e, a1, a2, a3⟩ := next_tk (i := 0) (kind := kind) (sign := sign) start hx (Nat.zero_le n)
  have hF : 12 < FUEL := fuel_400 (by decide)
  have hopen : f9_open bytes (nn n) kind sign fault start stop = some (k1, g1, 0, nn s, nn e) := by
    unfold f9_open
    rw [show f9_advance bytes (nn n) kind sign start 0 = _ from a2, bnd4_s]
  have hRc : RTc [] code sumEnd testEnd 0 := ⟨⟨rfl, fun i h => absurd h (Nat.not_lt_zero _)⟩, fun c h => absurd h (Nat.not_lt_zero _)⟩
  have hRm : RTm [] k sgn clause clauses sgn (upd len k 0) clause (upd clauses k 0) := ⟨⟨by rw [upd_at]; rfl, fun i h => absurd h (Nat.not_lt_zero _), fun _ _ => rfl⟩, by rw [upd_at]; rfl, fun c h => absurd h (Nat.not_lt_zero _), fun _ _ => rfl, fun x hx => upd_ne hx⟩
  have hRo : RTo [] 0 := ⟨Nat.le_refl _, fun c h => absurd h List.not_mem_nil⟩
  have hrule : f12_rule tape (nn n) (nn k) sgn len clause clauses rd nx wr nu tx ma de li opn od = bnd15 (f12_readsAll tape (nn n) sgn len clause (upd clauses k 0) rd nx wr nu (nn k) ma de li opn od) (fun r_4 z_taped_5 z_sign_6 z_length_7 z_clause_8 z_clauses_9 z_read_10 z_next_11 z_wrong_12 z_number_13 z_made_14 z_deep_15 z_lines_16 z_open_17 z_opened_18 =>
      if r_4 = 0 then (lt ((-2 - z_wrong_12)) (fun x_23 =>
      some (x_23, z_taped_5, nn k, z_sign_6, z_length_7, z_clause_8, z_clauses_9, z_read_10, z_next_11, z_wrong_12, z_number_13, nn k, z_made_14, z_deep_15, z_lines_16, z_open_17, z_opened_18))) else (lt ((nn k + 1)) (fun x_21 =>
      lt ((x_21 - 1)) (fun x_22 =>
      some (x_22, z_taped_5, x_21, z_sign_6, z_length_7, z_clause_8, z_clauses_9, z_read_10, z_next_11, z_wrong_12, z_number_13, nn k, z_made_14, z_deep_15, z_lines_16, z_open_17, z_opened_18))))) := by
    unfold f12_rule
    rw [if_neg (show ¬ nn k = 6 from nne (b := 6) (by omega) (by decide) (by omega)), nn_nat (show k < 2147483648 by omega), if_neg (ng (by omega) (by omega)), lt_df]
  rcases r_clausesR (rd := rd) (sg0 := sgn) (cl0 := clause) (cls0 := clauses) hk hx 12 0 rfl FUEL FUEL hF hF 0 s e 0 k1 g1 nu de od code sumEnd testEnd sgn (upd len k 0) clause (upd clauses k 0) opn 0 [] rfl (by decide) (Nat.le_refl _) a1 a3 hRc hRm hRo with ⟨cs, u2, k2, g2, st2, sp2, size2, num2, de2, li2, od2, code2, sumEnd2, testEnd2, sgn2, len2, clause2, clauses2, opn2, y1, y2, y3, y4, y5, y6, y7, y8⟩ | ⟨w, k2, g2, st2, sp2, size2, cn2, u2, code2, sumEnd2, testEnd2, sgn2, len2, clause2, clauses2, opn2, nx2, wr2, num2, ma2, de2, li2, od2, v2, y1, y2, y3, y4, y5, y6, y7⟩
  · have hA := (m_readsAll (w := 0) (nx := nx) (nu := nu) (ma := ma) (li := li) (a1 := len) (a5 := nx) (a6 := wr) (a8 := ma) (a10 := li) (k := k) (by omega) hx y2).2.1 rfl rfl rfl
    have hc : f6_readText code sumEnd testEnd size cn vals bytes (nn n) kind sign fault start stop = some (1, code2, sumEnd2, testEnd2, size2, nn cs.length, nn u2, k2, g2, 0, st2, sp2) := by
      unfold f6_readText
      unfold XBl at y1
      rw [hopen, bnd5_s]
      rw [show iter _ FUEL (code, sumEnd, testEnd, (0 : Int32), (0 : Int32), (0 : Int32), k1, g1, (0 : Int32), nn s, nn e, (0 : Int32)) = _ from y1, bndS11_l]
    rw [y3.1.1] at hc
    have hm : f12_rule tape (nn n) (nn k) sgn len clause clauses rd nx wr nu tx ma de li opn od = some (nn k, 0, nn (k + 1), sgn2, len2, clause2, clauses2, rd, nn n, 0, num2, nn k, nn u2, de2, li2, opn2, od2) := by
      rw [hrule, hA, bnd15_s, if_neg (show ¬ (1 : Int32) = 0 by decide), nn_succ, lt_df, nn_pred', lt_df]
    exact ⟨sgn2, len2, clause2, clauses2, nn n, 0, num2, nn u2, de2, li2, opn2, od2, y4.1.2.2, y4.2.2.2, Or.inl ⟨cs, nn u2, k2, g2, st2, sp2, code2, sumEnd2, testEnd2, hc, hm, ⟨y7, y8, by have := y5.1; omega, y5.2⟩, ⟨y4.2.1, y4.1.2.1, y4.2.2.1⟩, y3.1.2, y3.2⟩⟩
  · have hm := m_readsAll (w := w) (nx := nx) (nu := nu) (ma := ma) (li := li) (a1 := len) (a5 := nx) (a6 := wr) (a8 := ma) (a10 := li) (k := k) (by omega) hx y6
    have hc : f6_readText code sumEnd testEnd size cn vals bytes (nn n) kind sign fault start stop = some (0, code2, sumEnd2, testEnd2, size2, cn2, u2, k2, g2, nn w, st2, sp2) := by
      unfold f6_readText
      unfold XBl at y5
      rw [hopen, bnd5_s]
      rw [show iter _ FUEL (code, sumEnd, testEnd, (0 : Int32), (0 : Int32), (0 : Int32), k1, g1, (0 : Int32), nn s, nn e, (0 : Int32)) = _ from y5, bndS11_l]
    rcases y7 with ⟨h1, h2⟩ | ⟨h1, h2, s', h3, h4, h5, rfl⟩
    · have hA := hm.1 h1 h2 y1 y2
      exact ⟨sgn2, len2, clause2, clauses2, nx2, nn w, num2, ma2, de2, li2, opn2, od2, y3, y4, Or.inr ⟨w, size2, cn2, u2, k2, g2, st2, sp2, code2, sumEnd2, testEnd2, hc, by rw [hrule, hA, bnd15_s, if_pos rfl, lt_df]⟩⟩
    · have hA := hm.2.2 s' h1 h2 h3 h4 h5
      exact ⟨sgn2, len2, clause2, clauses2, nx2, nn (1 + 8 * s'), num2, ma2, de2, li2, opn2, od2, y3, y4, Or.inr ⟨_, size2, cn2, u2, k2, g2, st2, sp2, code2, sumEnd2, testEnd2, hc, by rw [hrule, hA, bnd15_s, if_pos rfl, lt_df]⟩⟩
theorem m_rule6 {taped nx wr nu tx ma de li od : Int32} {sgn len clause clauses rd opn : Nat → Int32} : f12_rule tape taped 6 sgn len clause clauses rd nx wr nu tx ma de li opn od = some (-1, taped, 6, sgn, len, clause, clauses, rd, nx, wr, nu, tx, ma, de, li, opn, od) := by
  unfold f12_rule
  rw [if_pos rfl]
end
