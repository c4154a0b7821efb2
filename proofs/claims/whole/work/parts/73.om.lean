/-! a ladder's text, clause by clause -/
def LdR (R P bb : Nat) (rd : Nat → Int32) (rungs people sbr : Int32) (room strength weight told srg swt : Nat → Int32) : Prop :=
  R < 10 ∧ P < 5 ∧ bb < 512 ∧ (R = 0 → P = 0) ∧ rungs = nn R ∧ people = nn P ∧ sbr = nn bb ∧ rd 0 = nn R ∧ rd 1 = nn P ∧ rd 2 = 0 ∧ rd 78 = 0 ∧
  (∀ r, r < 9 → room r = rd (10 + 4 * r) ∧ strength r = rd (11 + 4 * r) ∧ rd (12 + 4 * r) = 0 ∧ rd (13 + 4 * r) = bt bb r) ∧
  (∀ r, R ≤ r → r < 9 → bt bb r = 0) ∧
  (∀ p, p < P → rd (46 + 4 * p) = srg p ∧ rd (47 + 4 * p) = told p ∧ rd (48 + 4 * p) = swt p ∧ rd (49 + 4 * p) = 0 ∧ rd (62 + 2 * p) = weight p ∧ rd (63 + 2 * p) = told p ∧ rd (70 + p) = srg p ∧ rd (74 + p) = swt p ∧ (∃ r, r < R ∧ srg p = nn r ∧ bt bb r = 0) ∧ (∃ w, w < R ∧ swt p = nn w) ∧ (∃ w, 1 ≤ w ∧ w < 21 ∧ weight p = nn w) ∧ ∃ t, 1 ≤ t ∧ t < 31 ∧ told p = nn t) ∧
  (∀ p, P ≤ p → p < 4 → srg p = 0 ∧ told p = 0 ∧ swt p = 0) ∧ (∀ i, 46 + 4 * P ≤ i → i < 62 → rd i = 0) ∧ (∀ r, r < 9 → ∃ m, m < 5 ∧ rd (10 + 4 * r) = nn m)
section
variable {b : Nat → Nat} {bytes tape : Nat → Int32} {n i j s e R P bb : Nat} {rd : Nat → Int32} {rungs people sbr : Int32} {room strength weight told srg swt : Nat → Int32}
theorem c_crowdAt (hP4 : P < 5) (x : Int32) : f1_crowdAtStart (nn P) srg x = some (nn (crF srg x P)) := by
  unfold f1_crowdAtStart
  rw [iter_for (s := ((0 : Int32), (0 : Int32))) (st := fun k => (nn (crF srg x k), nn k)) (n := P) (out := nn (crF srg x P)) rfl (by omega) ?hs ?he]
  · exact bnd1_s _ _
  case hs =>
    intro k hk
    unfold f1_crowdAtStart_B4
    dsimp only
    rw [if_neg (nle (by omega) (by omega) (by omega)), nn_nat (by omega), if_neg (ng (by omega) (by omega))]
    simp only [lt_df, crF, nn_succ]
    by_cases h : srg k = x
    · rw [if_pos h, if_pos h]
    · rw [if_neg h, if_neg h]; rfl
  case he =>
    unfold f1_crowdAtStart_B4
    dsimp only
    rw [if_pos (Int32.le_refl _)]
theorem m_standFar (hP : rd 1 = nn P) (hP4 : P < 5) (x : Int32) : f12_standingSoFar rd x = some (nn (crF (fun p => rd (46 + 4 * p)) x P)) := by
  unfold f12_standingSoFar
  rw [iter_for (s := ((0 : Int32), (0 : Int32))) (st := fun k => (nn (crF (fun p => rd (46 + 4 * p)) x k), nn k)) (n := P) (out := nn (crF (fun p => rd (46 + 4 * p)) x P)) rfl (by omega) ?hs ?he]
  · exact bnd1_s _ _
  case hs =>
    intro k hk
    unfold f12_standingSoFar_B4 f12_standingSoFar_J35
    dsimp only
    have e46 : (46 : Int32) + 4 * nn k = nn (46 + 4 * k) := by rw [show (4 : Int32) * nn k = nn (4 * k) from nn_mul 4 k]; exact nn_add 46 _
    rw [hP, if_neg (nle (by omega) (by omega) (by omega)), e46, nn_nat (by omega), if_neg (ng (by omega) (by omega))]
    simp only [lt_df, crF, nn_succ]
    by_cases h : rd (46 + 4 * k) = x
    · rw [if_pos h, if_pos h]
    · rw [if_neg h, if_neg h, Int32.add_zero]; rfl
  case he =>
    unfold f12_standingSoFar_B4
    dsimp only
    rw [hP, if_pos (Int32.le_refl _)]
theorem LdR.crowd (h : LdR R P bb rd rungs people sbr room strength weight told srg swt) (x : Int32) : f12_standingSoFar rd x = some (nn (crF srg x P)) ∧ f1_crowdAtStart people srg x = some (nn (crF srg x P)) := by
  obtain ⟨h1, h2, h3, h4, h5, h6, h7, h8, h9, h10, h11, h12, h13, h14, h15, h16, h17⟩ := h
  refine ⟨?_, by rw [h6]; exact c_crowdAt h2 x⟩
  rw [m_standFar h9 h2, crF_congr (g' := srg) (fun p hp => (h14 p hp).1)]
theorem r_cell {lo hi c : Nat} {kind sign fault num : Int32} (hlo : lo < 2147483648) (hhi : hi < 2147483648) (hc : c < 79) (hx : TX b bytes tape n) (ht : Tk b n s kind sign e) (h : Rn isSp b n i s) :
    (∃ v, v < 100000 ∧ lo ≤ v ∧ v ≤ hi ∧ f2_number bytes kind fault (nn s) (nn e) (nn lo) (nn hi) = some (nn v, fault) ∧ f12_cellHere tape (nn n) rd (nn i) 0 num (nn c) (nn lo) (nn hi) = some (1, upd rd c (nn v), nn e, 0, nn v)) ∨
    (∃ (w : Nat) (nx num' : Int32), 0 < w ∧ w < 5000 ∧ f2_number bytes kind fault (nn s) (nn e) (nn lo) (nn hi) = some (-1, nn w) ∧ f12_cellHere tape (nn n) rd (nn i) 0 num (nn c) (nn lo) (nn hi) = some (0, rd, nx, nn w, num')) := by
  unfold f12_cellHere
  rcases r_number (fault := fault) (num := num) hlo hhi hx ht h with ⟨v, v1, v2, v3, -, v4, v5⟩ | ⟨w, nx, nu, w1, w2, w3, w4⟩
  · rw [v5, bnd4_s, if_neg (show ¬ (1 : Int32) = 0 by decide), nn_nat (show c < 2147483648 by omega), if_neg (ng (by omega) (by omega)), lt_df]
    exact Or.inl ⟨v, v1, v2, v3, v4, rfl⟩
  · rw [w4, bnd4_s, if_pos rfl]
    exact Or.inr ⟨w, nx, nu, w1, w2, w3, rfl⟩
/-- the next token -/
theorem next_tk {kind sign : Int32} (start : Int32) (hx : TX b bytes tape n) (hs : i ≤ n) : ∃ s1 k1 g1 e1, Rn isSp b n i s1 ∧ f9_advance bytes (nn n) kind sign start (nn i) = some (k1, g1, nn s1, nn e1) ∧ Tk b n s1 k1 g1 e1 := by
  obtain ⟨s1, h1⟩ := Rn_ex isSp b n (n - i) i (by omega)
  obtain ⟨k1, g1, e1, h2, h3⟩ := c_advance (kind := kind) (sign := sign) (start := start) hx h1
  exact ⟨s1, k1, g1, e1, h1, h2, h3⟩
theorem r_rungs {kind sign fault num a1 : Int32} {s0 e0 : Nat} (hx : TX b bytes tape n) (hw : Rn isLe b n s0 e0) (h : Rn isSp b n e0 s) (ht : Tk b n s kind sign e) (hL : LdR 0 P bb rd rungs people sbr room strength weight told srg swt) :
    (∃ v s1 k1 g1 e1 i1 num1, f2_readRungs bytes (nn n) kind sign fault (nn s) (nn e) rungs = some (1, k1, g1, fault, nn s1, nn e1, nn v) ∧ f12_isLadderHere tape (nn n) rd (nn s0) 0 num a1 = some (1, upd rd 0 (nn v), nn i1, 0, num1) ∧ Rn isSp b n i1 s1 ∧ Tk b n s1 k1 g1 e1 ∧ 0 < v ∧ LdR v P bb (upd rd 0 (nn v)) (nn v) people sbr room strength weight told srg swt) ∨
    (∃ (w : Nat) (k1 g1 st1 sp1 ru1 : Int32) (rd1 : Nat → Int32) (nx1 num1 : Int32), 0 < w ∧ w < 5000 ∧ f2_readRungs bytes (nn n) kind sign fault (nn s) (nn e) rungs = some (0, k1, g1, nn w, st1, sp1, ru1) ∧ f12_isLadderHere tape (nn n) rd (nn s0) 0 num a1 = some (0, rd1, nx1, nn w, num1)) := by
  obtain ⟨h1, h2, h3, h4, h5, h6, h7, h8, h9, h10, h11, h12, h13, h14, h15, h16, h17⟩ := hL
  have hP0 : P = 0 := h4 rfl
  unfold f2_readRungs f12_isLadderHere
  rw [h8, if_pos (show nn 0 ≤ 0 from Int32.le_refl _), m_passWord hx hw, bnd1_s]
  rcases r_cell (rd := rd) (fault := fault) (num := num) (lo := 3) (hi := 9) (c := 0) (by decide) (by decide) (by decide) hx ht h with ⟨v, v1, v2, v3, v4, v5⟩ | ⟨w, nx, nu, w1, w2, w3, w4⟩
  · obtain ⟨s1, k1, g1, e1, t1, t2, t3⟩ := next_tk (kind := kind) (sign := sign) (nn s) hx ht.se.2.1
    left
    rw [show f2_number bytes kind fault (nn s) (nn e) 3 9 = _ from v4, bnd2_s, if_neg (nn_ne_m1 (by omega)), t2, bnd4_s]
    rw [show f12_cellHere tape (nn n) rd (nn e0) 0 num 0 3 9 = _ from v5, bnd5_s, if_pos (Or.inr rfl)]
    refine ⟨v, s1, k1, g1, e1, e, _, rfl, rfl, t1, t3, by omega, by omega, h2, h3, fun h => by omega, rfl, h6, h7, upd_at, by rw [upd_ne (by decide)]; exact h9, by rw [upd_ne (by decide)]; exact h10, by rw [upd_ne (by decide)]; exact h11, fun r hr => ?_, fun r hr hr9 => h13 r (by omega) hr9, fun p hp => by omega, h15, fun i hi hi2 => by rw [upd_ne (by omega)]; exact h16 i hi hi2, fun r hr => by rw [upd_ne (by omega)]; exact h17 r hr⟩
    rw [upd_ne (by omega), upd_ne (by omega), upd_ne (by omega), upd_ne (by omega)]
    exact h12 r hr
  · right
    rw [show f2_number bytes kind fault (nn s) (nn e) 3 9 = _ from w3, bnd2_s, if_pos rfl]
    rw [show f12_cellHere tape (nn n) rd (nn e0) 0 num 0 3 9 = _ from w4, bnd5_s, if_pos (Or.inl rfl)]
    exact ⟨w, _, _, _, _, _, _, _, _, w1, w2, rfl, rfl⟩
theorem r_rungL {kind sign fault num : Int32} {s0 e0 : Nat} (hR : 0 < R) (hx : TX b bytes tape n) (hw : Rn isLe b n s0 e0) (h : Rn isSp b n e0 s) (ht : Tk b n s kind sign e) (hL : LdR R P bb rd rungs people sbr room strength weight told srg swt) :
    (∃ s1 k1 g1 e1 i1 num1 rd1 room1 str1, f2_readRung bytes (nn n) kind sign fault (nn s) (nn e) rungs people room strength srg = some (1, k1, g1, fault, nn s1, nn e1, room1, str1) ∧ f12_isRungHere tape (nn n) rd (nn s0) 0 num = some (1, rd1, nn i1, 0, num1) ∧ Rn isSp b n i1 s1 ∧ Tk b n s1 k1 g1 e1 ∧ LdR R P bb rd1 rungs people sbr room1 str1 weight told srg swt) ∨
    (∃ (w : Nat) (k1 g1 st1 sp1 : Int32) (ro1 tr1 rd1 : Nat → Int32) (nx1 num1 : Int32), 0 < w ∧ w < 5000 ∧ f2_readRung bytes (nn n) kind sign fault (nn s) (nn e) rungs people room strength srg = some (0, k1, g1, nn w, st1, sp1, ro1, tr1) ∧ f12_isRungHere tape (nn n) rd (nn s0) 0 num = some (0, rd1, nx1, nn w, num1)) := by
  have hcr := hL.crowd
  obtain ⟨h1, h2, h3, h4, h5, h6, h7, h8, h9, h10, h11, h12, h13, h14, h15, h16, h17⟩ := hL
  have hR1 : nn R - 1 = nn (R - 1) := nn_sub (b := 1) (by omega)
  unfold f2_readRung f12_isRungHere
  rw [m_passWord hx hw, bnd1_s, h5, h8, hR1]
  rcases r_number (fault := fault) (num := num) (lo := 0) (hi := R - 1) (by decide) (by omega) hx ht h with ⟨v, v1, v2, v3, -, v4, v5⟩ | ⟨w, nx, nu, w1, w2, w3, w4⟩
  · obtain ⟨s1, k1, g1, e1, t1, t2, t3⟩ := next_tk (kind := kind) (sign := sign) (nn s) hx ht.se.2.1
    have hcl := crF_le srg (nn v) P
    have e10 : (10 : Int32) + 4 * nn v = nn (10 + 4 * v) := by rw [show (4 : Int32) * nn v = nn (4 * v) from nn_mul 4 v]; exact nn_add 10 _
    rw [show f2_number bytes kind fault (nn s) (nn e) 0 (nn (R - 1)) = _ from v4, bnd2_s, if_neg (nn_ne_m1 (by omega)), t2, bnd4_s, (hcr _).2, bnd1_s]
    rw [show f12_numberHere tape (nn n) (nn e0) 0 num 0 (nn (R - 1)) = _ from v5, bnd4_s, if_neg (show ¬ (1 : Int32) = 0 by decide), e10, lt_df, lt_df, (hcr _).1, bnd1_s]
    have hm : ∃ m, m < 100 ∧ (if (1 : Int32) < nn (crF srg (nn v) P) then nn (crF srg (nn v) P) else 1) = nn m ∧ (if nn (crF srg (nn v) P) ≤ 1 then (f12_isRungHere_J53 tape (nn n) rd (nn e) 0 (nn v) (nn (10 + 4 * v)) (nn (10 + 4 * v)) 1) else (f12_isRungHere_J53 tape (nn n) rd (nn e) 0 (nn v) (nn (10 + 4 * v)) (nn (10 + 4 * v)) (nn (crF srg (nn v) P)))) = f12_isRungHere_J53 tape (nn n) rd (nn e) 0 (nn v) (nn (10 + 4 * v)) (nn (10 + 4 * v)) (nn m) := by
      by_cases c : crF srg (nn v) P ≤ 1
      · rw [if_neg (show ¬ (1 : Int32) < nn (crF srg (nn v) P) from nlt (a := 1) (by decide) (by omega) (by omega)), if_pos (show nn (crF srg (nn v) P) ≤ 1 from nleT (b := 1) (by omega) (by decide) c)]
        exact ⟨1, by decide, rfl, rfl⟩
      · rw [if_pos (show (1 : Int32) < nn (crF srg (nn v) P) from nltT (a := 1) (by decide) (by omega) (by omega)), if_neg (show ¬ nn (crF srg (nn v) P) ≤ 1 from nle (b := 1) (by omega) (by decide) (by omega))]
        exact ⟨_, by omega, rfl, rfl⟩
    obtain ⟨m, m1, m2, m3⟩ := hm
    rw [m2, m3]
    unfold f12_isRungHere_J53
    rcases r_cell (rd := rd) (fault := fault) (num := nn v) (lo := m) (hi := 4) (c := 10 + 4 * v) (by omega) (by decide) (by omega) hx t3 t1 with ⟨u, u1, u2, u3, u4, u5⟩ | ⟨w, nx, nu, w1, w2, w3, w4⟩
    · obtain ⟨s2, k2, g2, e2, y1, y2, y3⟩ := next_tk (kind := k1) (sign := g1) (nn s1) hx t3.se.2.1
      rw [show f2_number bytes k1 fault (nn s1) (nn e1) (nn m) 4 = _ from u4, bnd2_s, if_neg (nn_ne_m1 (by omega)), y2, bnd4_s]
      rw [show f12_cellHere tape (nn n) rd (nn e) 0 (nn v) (nn (10 + 4 * v)) (nn m) 4 = _ from u5, bnd5_s, if_neg (show ¬ (1 : Int32) = 0 by decide), nn_succ]
      rcases r_cell (rd := upd rd (10 + 4 * v) (nn u)) (fault := fault) (num := nn u) (lo := 1) (hi := 999) (c := 10 + 4 * v + 1) (by decide) (by decide) (by omega) hx y3 y1 with ⟨x, x1, x2, x3, x4, x5⟩ | ⟨w, nx, nu, w1, w2, w3, w4⟩
      · obtain ⟨s3, k3, g3, e3, z1, z2, z3⟩ := next_tk (kind := k2) (sign := g2) (nn s2) hx y3.se.2.1
        left
        rw [show f2_number bytes k2 fault (nn s2) (nn e2) 1 999 = _ from x4, bnd2_s, if_neg (nn_ne_m1 (by omega)), z2, bnd4_s, nn_nat (show v < 2147483648 by omega), if_neg (ng (by omega) (by omega)), lt_df, if_neg (ng (by omega) (by omega)), lt_df]
        rw [show f12_cellHere tape (nn n) (upd rd (10 + 4 * v) (nn u)) (nn e1) 0 (nn u) (nn (10 + 4 * v + 1)) 1 999 = _ from x5, bnd5_s, if_neg (show ¬ (1 : Int32) = 0 by decide)]
        refine ⟨s3, k3, g3, e3, e2, _, _, _, _, rfl, rfl, z1, z3, h1, h2, h3, h4, rfl, h6, h7, by rw [upd_ne (by omega), upd_ne (by omega)]; exact h8, by rw [upd_ne (by omega), upd_ne (by omega)]; exact h9, by rw [upd_ne (by omega), upd_ne (by omega)]; exact h10, by rw [upd_ne (by omega), upd_ne (by omega)]; exact h11, fun r hr => ?_, h13, fun p hp => ?_, h15, fun i hi hi2 => by rw [upd_ne (by omega), upd_ne (by omega)]; exact h16 i hi hi2, fun r hr => ?_⟩
        · rw [upd_ne (i := 10 + 4 * v + 1) (j := 12 + 4 * r) (by omega), upd_ne (i := 10 + 4 * v) (j := 12 + 4 * r) (by omega), upd_ne (i := 10 + 4 * v + 1) (j := 13 + 4 * r) (by omega), upd_ne (i := 10 + 4 * v) (j := 13 + 4 * r) (by omega), upd_ne (i := 10 + 4 * v + 1) (j := 10 + 4 * r) (by omega)]
          by_cases c : r = v
          · subst c
            rw [upd_at, upd_at, upd_at, show 11 + 4 * r = 10 + 4 * r + 1 by omega, upd_at]
            exact ⟨rfl, rfl, (h12 r hr).2.2.1, (h12 r hr).2.2.2⟩
          · rw [upd_ne c, upd_ne c, upd_ne (i := 10 + 4 * v) (j := 10 + 4 * r) (by omega), upd_ne (i := 10 + 4 * v + 1) (j := 11 + 4 * r) (by omega), upd_ne (i := 10 + 4 * v) (j := 11 + 4 * r) (by omega)]
            exact h12 r hr
        · rw [upd_ne (by omega), upd_ne (by omega), upd_ne (by omega), upd_ne (by omega), upd_ne (by omega), upd_ne (by omega), upd_ne (by omega), upd_ne (by omega), upd_ne (by omega), upd_ne (by omega), upd_ne (by omega), upd_ne (by omega), upd_ne (by omega), upd_ne (by omega), upd_ne (by omega), upd_ne (by omega)]
          exact h14 p hp
        · rw [upd_ne (by omega)]
          by_cases c : r = v
          · subst c; exact ⟨u, by omega, upd_at⟩
          · rw [upd_ne (by omega)]; exact h17 r hr
      · right
        rw [show f2_number bytes k2 fault (nn s2) (nn e2) 1 999 = _ from w3, bnd2_s, if_pos rfl]
        rw [show f12_cellHere tape (nn n) (upd rd (10 + 4 * v) (nn u)) (nn e1) 0 (nn u) (nn (10 + 4 * v + 1)) 1 999 = _ from w4, bnd5_s, if_pos rfl]
        exact ⟨w, _, _, _, _, _, _, _, _, _, w1, w2, rfl, rfl⟩
    · right
      rw [show f2_number bytes k1 fault (nn s1) (nn e1) (nn m) 4 = _ from w3, bnd2_s, if_pos rfl]
      rw [show f12_cellHere tape (nn n) rd (nn e) 0 (nn v) (nn (10 + 4 * v)) (nn m) 4 = _ from w4, bnd5_s, if_pos rfl]
      exact ⟨w, _, _, _, _, _, _, _, _, _, w1, w2, rfl, rfl⟩
  · right
    rw [show f2_number bytes kind fault (nn s) (nn e) 0 (nn (R - 1)) = _ from w3, bnd2_s, if_pos rfl]
    rw [show f12_numberHere tape (nn n) (nn e0) 0 num 0 (nn (R - 1)) = _ from w4, bnd4_s, if_pos rfl]
    exact ⟨w, _, _, _, _, _, _, _, _, _, w1, w2, rfl, rfl⟩
end
