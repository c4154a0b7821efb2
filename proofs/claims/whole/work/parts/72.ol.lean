/-! numbers; words at a place -/
def numV (b : Nat → Nat) (s : Nat) : Nat → Nat
  | 0 => 0
  | k + 1 => numV b s k * 10 + (b (s + k) - 48)
section
variable {b : Nat → Nat} {bytes tape : Nat → Int32} {n i j s e : Nat}
theorem numV_lt : ∀ {k : Nat}, (∀ q, q < k → isDi (b (s + q)) = true) → numV b s k < 10 ^ k
  | 0, _ => Nat.zero_lt_one
  | k + 1, h => by
    have ih := numV_lt (k := k) (fun q hq => h q (by omega))
    have hk := isDi_iff.mp (h k (by omega))
    show numV b s k * 10 + (b (s + k) - 48) < 10 ^ (k + 1)
    rw [Nat.pow_succ]
    omega
theorem numV_5 {k : Nat} (hk : k ≤ 5) (h : ∀ q, q < k → isDi (b (s + q)) = true) : numV b s k < 100000 := by
  have h1 := numV_lt h
  have h2 : 10 ^ k ≤ 10 ^ 5 := Nat.pow_le_pow_right (by decide) hk
  have h3 : (10 : Nat) ^ 5 = 100000 := by decide
  omega
theorem c_numAt (hx : TX b bytes tape n) (h : Rn isDi b n s e) : f9_numberAtHand bytes (nn s) (nn e) = some (if e - s ≤ 5 then nn (numV b s (e - s)) else -1) := by
  have hn := hx.1
  have hse := h.1
  have hen := h.2.1
  have hd : ∀ q, q < e - s → isDi (b (s + q)) = true := fun q hq => h.2.2.1 (s + q) (by omega) (by omega)
  unfold f9_numberAtHand
  rw [nn_sub hse]
  by_cases c : e - s ≤ 5
  · rw [if_pos (show nn (e - s) ≤ 5 from nleT (b := 5) (by omega) (by decide) c), if_pos c]
    rw [iter_for (s := ((0 : Int32), nn s)) (st := fun k => (nn (numV b s k), nn (s + k))) (n := e - s) (out := nn (numV b s (e - s))) rfl (by omega) ?hs ?he]
    · exact bnd1_s _ _
    case hs =>
      intro k hk
      unfold f9_numberAtHand_B22
      obtain ⟨q1, q2, q3⟩ := hx.2 (s + k) (by omega)
      have hl := isDi_iff.mp (hd k hk)
      have hv := numV_5 (k := k) (by omega) (fun q hq => hd q (by omega))
      have e1 : nn (numV b s k) * 10 = nn (numV b s k * 10) := nn_mul _ 10
      have e2 : nn (numV b s k * 10 + b (s + k)) - 48 = nn (numV b s (k + 1)) := by
        rw [show nn (numV b s k * 10 + b (s + k)) - 48 = nn (numV b s k * 10 + b (s + k) - 48) from nn_sub (b := 48) (by omega)]
        congr 1
        show _ = numV b s k * 10 + (b (s + k) - 48)
        omega
      dsimp only
      rw [if_neg (nle (by omega) (by omega) (by omega)), nn_nat (show s + k < 2147483648 by omega), if_neg (ng (by omega) (by omega)), q2, e1, nn_add, lt_df, e2, lt_df, lt_df, nn_succ, Nat.add_assoc]
    case he =>
      unfold f9_numberAtHand_B22
      dsimp only
      rw [if_pos (nleT (by omega) (by omega) (by omega))]
  · rw [if_neg (show ¬ nn (e - s) ≤ 5 from nle (b := 5) (by omega) (by decide) c), if_neg c]
theorem m_numL (hx : TX b bytes tape n) (h : Rn isDi b n s e) : iter (fun (z : Int32 × Int32) => f12_numberHere_B34 tape (nn n) (nn s) z.1 z.2) FUEL (nn s, (0 : Int32)) = some (nn e, nn (numV b s (min (e - s) 5))) := by
  have hn := hx.1
  have hse := h.1
  have hen := h.2.1
  have hd : ∀ q, q < e - s → isDi (b (s + q)) = true := fun q hq => h.2.2.1 (s + q) (by omega) (by omega)
  refine iter_for (st := fun k => (nn (s + k), nn (numV b s (min k 5)))) (n := e - s) (out := (nn e, nn (numV b s (min (e - s) 5)))) rfl (by omega) (fun k hk => ?_) ?_
  · unfold f12_numberHere_B34 f12_numberHere_J75
    obtain ⟨q1, q2, q3⟩ := hx.2 (s + k) (by omega)
    have hl := isDi_iff.mp (hd k hk)
    rw [m_dig1 hx (by omega) (hd k hk), bnd1_s, if_neg (show ¬ (1 : Int32) = 0 by decide), nn_sub (show s ≤ s + k by omega), show s + k - s = k by omega, nn_succ, lt_df]
    by_cases c : 5 ≤ k
    · rw [if_pos (show (5 : Int32) ≤ nn k from nleT (a := 5) (by decide) (by omega) c), show min (k + 1) 5 = 5 by omega, show min k 5 = 5 by omega, Nat.add_assoc]
    · have hv := numV_5 (k := k) (by omega) (fun q hq => hd q (by omega))
      have e1 : (10 : Int32) * nn (numV b s k) = nn (10 * numV b s k) := nn_mul 10 _
      have e2 : nn (10 * numV b s k + b (s + k)) - 48 = nn (numV b s (k + 1)) := by
        rw [show nn (10 * numV b s k + b (s + k)) - 48 = nn (10 * numV b s k + b (s + k) - 48) from nn_sub (b := 48) (by omega)]
        congr 1
        show _ = numV b s k * 10 + (b (s + k) - 48)
        omega
      rw [if_neg (show ¬ (5 : Int32) ≤ nn k from nle (a := 5) (by decide) (by omega) c), nn_nat (show s + k < 2147483648 by omega), if_neg (ng (by omega) (by omega)), q3, sb_lo _ (by omega), show min k 5 = k by omega, e1, nn_add, lt_df, e2, lt_df, lt_df, show min (k + 1) 5 = k + 1 by omega, Nat.add_assoc]
  · unfold f12_numberHere_B34
    rw [show s + (e - s) = e by omega, m_dig0 hx hen h.2.2.2, bnd1_s, if_pos rfl]
theorem wr_n (s k : Nat) : ((1 : Int32) + 8 * nn s) + nn k = nn (1 + 8 * s + k) := by
  rw [show (8 : Int32) * nn s = nn (8 * s) from nn_mul 8 s, show (1 : Int32) + nn (8 * s) = nn (1 + 8 * s) from nn_add 1 _, nn_add]
theorem c_refuse (fault : Int32) (s k : Nat) : f9_refuse fault (nn s) (nn k) = some (0, nn (1 + 8 * s + k)) := by
  unfold f9_refuse
  rw [wr_n, lt_df]
theorem m_fails (s k : Nat) : f12_fails 0 (nn k) (nn s) = some (0, nn (1 + 8 * s + k)) := by
  unfold f12_fails
  rw [if_pos rfl, wr_n, lt_df]
/-- the kind at hand and the first byte -/
theorem Tk.num {kind sign : Int32} (ht : Tk b n s kind sign e) : (kind = 2 ∧ s < n ∧ isDi (b s) = true ∧ Rn isDi b n s e) ∨ (¬ kind = 2 ∧ (s < n → isDi (b s) = false)) := by
  rcases ht.2 with ⟨h1, h2, rfl⟩ | ⟨h1, h2, h3, h4, h5⟩
  · exact Or.inr ⟨by decide, fun h => by omega⟩
  · rcases h5 with ⟨g1, rfl, g3, g4⟩ | ⟨g1, rfl, g3, g4⟩ | ⟨g1, g2, rfl, g4⟩
    · refine Or.inr ⟨by decide, fun _ => Bool.eq_false_iff.mpr (fun h => ?_)⟩
      have a1 := isLe_iff.mp g1
      have a2 := isDi_iff.mp h
      omega
    · exact Or.inl ⟨rfl, h1, g1, g4⟩
    · exact Or.inr ⟨by decide, fun _ => g2⟩
theorem Tk.wd {kind sign : Int32} (ht : Tk b n s kind sign e) : (kind = 1 ∧ s < n ∧ s < e ∧ e ≤ n ∧ Rn isLe b n s e) ∨ (¬ kind = 1 ∧ Rn isLe b n s s) := by
  rcases ht.2 with ⟨h1, h2, rfl⟩ | ⟨h1, h2, h3, h4, h5⟩
  · exact Or.inr ⟨by decide, Rn.stay ht.1 (fun h => by omega)⟩
  · rcases h5 with ⟨g1, rfl, g3, g4⟩ | ⟨g1, rfl, g3, g4⟩ | ⟨g1, g2, rfl, g4⟩
    · exact Or.inl ⟨rfl, h1, h3, h4, g4⟩
    · refine Or.inr ⟨by decide, Rn.stay ht.1 (fun _ => Bool.eq_false_iff.mpr (fun h => ?_))⟩
      have a1 := isDi_iff.mp g1
      have a2 := isLe_iff.mp h
      omega
    · exact Or.inr ⟨by decide, Rn.stay ht.1 (fun _ => g1)⟩
theorem Tk.se {kind sign : Int32} (ht : Tk b n s kind sign e) : s ≤ e ∧ e ≤ n ∧ s ≤ n := by
  rcases ht.2 with ⟨h1, h2, h3⟩ | ⟨h1, h2, h3, h4, h5⟩
  · have := ht.1; omega
  · omega
/-- a number between two bounds -/
theorem r_number {lo hi : Nat} {kind sign fault num : Int32} (hlo : lo < 2147483648) (hhi : hi < 2147483648) (hx : TX b bytes tape n) (ht : Tk b n s kind sign e) (h : Rn isSp b n i s) :
    (∃ v, v < 100000 ∧ lo ≤ v ∧ v ≤ hi ∧ kind = 2 ∧ f2_number bytes kind fault (nn s) (nn e) (nn lo) (nn hi) = some (nn v, fault) ∧ f12_numberHere tape (nn n) (nn i) 0 num (nn lo) (nn hi) = some (1, nn e, 0, nn v)) ∨
    (∃ (w : Nat) (nx num' : Int32), 0 < w ∧ w < 5000 ∧ f2_number bytes kind fault (nn s) (nn e) (nn lo) (nn hi) = some (-1, nn w) ∧ f12_numberHere tape (nn n) (nn i) 0 num (nn lo) (nn hi) = some (0, nx, nn w, num')) := by
  have hn := hx.1
  have hs := ht.1
  unfold f2_number f12_numberHere
  rw [m_see hx h, bnd2_s]
  rcases ht.num with ⟨rfl, k1, k2, k3⟩ | ⟨k1, k2⟩
  · rw [if_pos rfl, m_dig1 hx k1 k2, bnd1_s, if_neg (show ¬ (1 : Int32) = 0 by decide), m_numL hx k3, bnd2_s, c_numAt hx k3, bnd1_s, nn_sub k3.1]
    have hd : ∀ q, q < e - s → isDi (b (s + q)) = true := fun q hq => k3.2.2.1 (s + q) (by have := k3.1; omega) (by have := k3.1; omega)
    have hse := k3.1
    have hen := k3.2.1
    by_cases c : e - s ≤ 5
    · have hv := numV_5 c hd
      have i2 := m_in (a := nn (numV b s (e - s))) (lo := lo) (hi := hi) hlo hhi
      rw [if_pos c, if_neg (show ¬ 5 < nn (e - s) from nlt (a := 5) (by decide) (by omega) (by omega)), show min (e - s) 5 = e - s by omega, show Int32.toInt64 (nn lo) = lN lo from nI_l hlo, show Int32.toInt64 (nn hi) = lN hi from nI_l hhi, i2, bnd1_s]
      by_cases c1 : numV b s (e - s) < lo
      · rw [if_pos (nltT (by omega) hlo c1), if_pos (nltT (by omega) hlo c1), if_pos rfl]
        unfold f2_number_J40 f12_numberHere_J117
        rw [show (1 : Int32) = nn 1 from rfl, c_refuse, bnd2_s, m_fails, bnd2_s, if_pos rfl]
        exact Or.inr ⟨_, _, _, by omega, by omega, rfl, rfl⟩
      · rw [if_neg (nlt (by omega) hlo c1), if_neg (nlt (by omega) hlo c1)]
        by_cases c2 : numV b s (e - s) ≤ hi
        · rw [if_pos (nleT (by omega) hhi c2), if_neg (nlt hhi (by omega) (by omega)), if_neg (show ¬ (1 : Int32) = 0 by decide)]
          exact Or.inl ⟨_, hv, by omega, c2, rfl, rfl, rfl⟩
        · rw [if_neg (nle (by omega) hhi c2), if_pos (nltT hhi (by omega) (by omega)), if_pos rfl]
          unfold f2_number_J40 f12_numberHere_J117
          rw [show (1 : Int32) = nn 1 from rfl, c_refuse, bnd2_s, m_fails, bnd2_s, if_pos rfl]
          exact Or.inr ⟨_, _, _, by omega, by omega, rfl, rfl⟩
    · rw [if_neg c, if_pos (show 5 < nn (e - s) from nltT (a := 5) (by decide) (by omega) (by omega)), if_pos (show (-1 : Int32) < nn lo from m1lt hlo)]
      unfold f2_number_J40 f12_numberHere_J117
      rw [show (1 : Int32) = nn 1 from rfl, c_refuse, bnd2_s, m_fails, bnd2_s, if_pos rfl]
      exact Or.inr ⟨_, _, _, by omega, by omega, rfl, rfl⟩
  · rw [if_neg k1, m_dig0 hx hs k2, bnd1_s, if_pos rfl, show f9_refuse fault (nn s) 0 = _ from c_refuse fault s 0, bnd2_s, show f12_fails 0 0 (nn s) = _ from m_fails s 0, bnd2_s, if_pos (Or.inl rfl)]
    exact Or.inr ⟨_, _, _, by omega, by omega, rfl, rfl⟩
theorem m_isW1 {w : List Nat} {c : Int64} (hx : TX b bytes tape n) (h : Rn isSp b n j s) (hL : Rn isLe b n s e) (hw : okW w) (hc : c = lN (pkW w)) (hT : TW b s e w) : f12_isWord tape (nn n) (nn j) c = some (1, nn s) := (m_isWord hx h hL hw hc).1 hT
theorem m_isW0 {w : List Nat} {c : Int64} (hx : TX b bytes tape n) (h : Rn isSp b n j s) (hL : Rn isLe b n s e) (hw : okW w) (hc : c = lN (pkW w)) (hT : ¬ TW b s e w) : f12_isWord tape (nn n) (nn j) c = some (0, nn s) := (m_isWord hx h hL hw hc).2 hT
/-- which word of a row stands at hand: in the class, and in the reference -/
def HW (b : Nat → Nat) (tape : Nat → Int32) (n s i k : Nat) : Prop := ∀ k', k' < (rowW i).length → ∀ j, Rn isSp b n j s → (k' = k → f12_isWord tape (nn n) (nn j) (lN (pkW ((rowW i).getD k' []))) = some (1, nn s)) ∧ (¬ k' = k → f12_isWord tape (nn n) (nn j) (lN (pkW ((rowW i).getD k' []))) = some (0, nn s))
theorem r_row {kind sign : Int32} (hi : i < 7) (hx : TX b bytes tape n) (ht : Tk b n s kind sign e) : (∃ k, k < (rowW i).length ∧ kind = 1 ∧ s < e ∧ Rn isLe b n s e ∧ f9_wordIn bytes kind (nn s) (nn e) i = some (nn k) ∧ HW b tape n s i k) ∨ (f9_wordIn bytes kind (nn s) (nn e) i = some (-1) ∧ ∀ k, (rowW i).length ≤ k → HW b tape n s i k) := by
  have hse := ht.se
  rcases ht.wd with ⟨rfl, w1, w2, w3, w4⟩ | ⟨w1, w4⟩
  · rcases c_wordIn hi hx hse.1 hse.2.1 with ⟨k, k1, k2, k3⟩ | ⟨k1, k2⟩
    · refine Or.inl ⟨k, k1, rfl, w2, w4, k3, fun k' hk' j hj => ⟨fun h => ?_, fun h => ?_⟩⟩
      · subst h
        exact m_isW1 hx hj w4 (row_w i hi _ hk') rfl k2
      · refine m_isW0 hx hj w4 (row_w i hi _ hk') rfl (fun h2 => h ?_)
        have e1 := (TW_pk w4 (row_w i hi _ hk')).mp h2
        have e2 := (TW_pk w4 (row_w i hi _ k1)).mp k2
        exact row_d i hi _ hk' _ k1 (e1.symm.trans e2)
    · refine Or.inr ⟨k2, fun k hk k' hk' j hj => ⟨fun h => by omega, fun h => m_isW0 hx hj w4 (row_w i hi _ hk') rfl (k1 k' hk')⟩⟩
  · refine Or.inr ⟨by unfold f9_wordIn; rw [if_neg w1], fun k hk k' hk' j hj => ⟨fun h => by omega, fun h => m_isW0 hx hj w4 (row_w i hi _ hk') rfl (fun h2 => ?_)⟩⟩
    have := (row_w i hi _ hk').1
    have := h2.1
    omega
theorem r_at {kind sign : Int32} (hi : i < 7) (hl : (rowW i).length = 1) (hx : TX b bytes tape n) (ht : Tk b n s kind sign e) : (kind = 1 ∧ s < e ∧ Rn isLe b n s e ∧ f9_isAtWord bytes kind (nn s) (nn e) i = some 1 ∧ ∀ j, Rn isSp b n j s → f12_isWord tape (nn n) (nn j) (lN (pkW ((rowW i).getD 0 []))) = some (1, nn s)) ∨ (f9_isAtWord bytes kind (nn s) (nn e) i = some 0 ∧ ∀ j, Rn isSp b n j s → f12_isWord tape (nn n) (nn j) (lN (pkW ((rowW i).getD 0 []))) = some (0, nn s)) := by
  unfold f9_isAtWord
  rcases r_row hi hx ht with ⟨k, k1, k2, k3, k4, k5, k6⟩ | ⟨k1, k2⟩
  · have : k = 0 := by omega
    subst this
    rw [k5, bnd1_s, if_pos (show nn 0 = 0 from rfl)]
    exact Or.inl ⟨k2, k3, k4, rfl, fun j hj => (k6 0 k1 j hj).1 rfl⟩
  · rw [k1, bnd1_s, if_neg (show ¬ (-1 : Int32) = 0 by decide)]
    exact Or.inr ⟨rfl, fun j hj => (k2 1 (by omega) 0 (by omega) j hj).2 (by omega)⟩

theorem cw6_0 : (123581014175598 : Int64) = lN (pkW ((rowW 6).getD 0 [])) := by decide +kernel
theorem cw6_1 : (1920298599 : Int64) = lN (pkW ((rowW 6).getD 1 [])) := by decide +kernel
theorem cw6_2 : (2002873972 : Int64) = lN (pkW ((rowW 6).getD 2 [])) := by decide +kernel
theorem cw6_3 : (131277443786868 : Int64) = lN (pkW ((rowW 6).getD 3 [])) := by decide +kernel
theorem cw6_4 : (1735551344 : Int64) = lN (pkW ((rowW 6).getD 4 [])) := by decide +kernel
theorem cw6_5 : (1953459300 : Int64) = lN (pkW ((rowW 6).getD 5 [])) := by decide +kernel
theorem cw6_6 : (1752135026 : Int64) = lN (pkW ((rowW 6).getD 6 [])) := by decide +kernel
theorem cw6_7 : (1751478885 : Int64) = lN (pkW ((rowW 6).getD 7 [])) := by decide +kernel
theorem cw6_8 : (418263299685 : Int64) = lN (pkW ((rowW 6).getD 8 [])) := by decide +kernel
theorem cw6_9 : (422608400247 : Int64) = lN (pkW ((rowW 6).getD 9 [])) := by decide +kernel
theorem cw6_10 : (2003792494 : Int64) = lN (pkW ((rowW 6).getD 10 [])) := by decide +kernel
theorem cw6_11 : (8319400191629685864 : Int64) = lN (pkW ((rowW 6).getD 11 [])) := by decide +kernel
theorem cw6_12 : (495740088435 : Int64) = lN (pkW ((rowW 6).getD 12 [])) := by decide +kernel
theorem cw0_0 : (119165551928690 : Int64) = lN (pkW ((rowW 0).getD 0 [])) := by decide +kernel
theorem cw0_1 : (1920298599 : Int64) = lN (pkW ((rowW 0).getD 1 [])) := by decide +kernel
theorem cw0_2 : (108243635103086 : Int64) = lN (pkW ((rowW 0).getD 2 [])) := by decide +kernel
theorem cw0_3 : (123581014175598 : Int64) = lN (pkW ((rowW 0).getD 3 [])) := by decide +kernel
theorem cw1_0 : (427020610914 : Int64) = lN (pkW ((rowW 1).getD 0 [])) := by decide +kernel
theorem cw2_0 : (26982 : Int64) = lN (pkW ((rowW 2).getD 0 [])) := by decide +kernel
theorem cw3_0 : (6385252 : Int64) = lN (pkW ((rowW 3).getD 0 [])) := by decide +kernel
theorem cw4_0 : (28530 : Int64) = lN (pkW ((rowW 4).getD 0 [])) := by decide +kernel
theorem cw5_0 : (7237492 : Int64) = lN (pkW ((rowW 5).getD 0 [])) := by decide +kernel
theorem m_wordHere {k : Nat} (h : HW b tape n s 6 k) (hj : Rn isSp b n j s) : f12_wordHere tape (nn n) (nn j) = some (if k < 13 then nn k else -1, nn s) := by
  unfold f12_wordHere
  have hs := hj.mid
  by_cases c0 : 0 = k
  · rw [cw6_0, (h 0 (by decide) j hj).1 c0, bnd2_s, if_neg (show ¬ (1 : Int32) = 0 by decide), if_pos (show k < 13 by omega), ← c0]
    rfl
  · rw [cw6_0, (h 0 (by decide) j hj).2 c0, bnd2_s, if_pos rfl]
    by_cases c1 : 1 = k
    · rw [cw6_1, (h 1 (by decide) s hs).1 c1, bnd2_s, if_neg (show ¬ (1 : Int32) = 0 by decide), if_pos (show k < 13 by omega), ← c1]
      rfl
    · rw [cw6_1, (h 1 (by decide) s hs).2 c1, bnd2_s, if_pos rfl]
      by_cases c2 : 2 = k
      · rw [cw6_2, (h 2 (by decide) s hs).1 c2, bnd2_s, if_neg (show ¬ (1 : Int32) = 0 by decide), if_pos (show k < 13 by omega), ← c2]
        rfl
      · rw [cw6_2, (h 2 (by decide) s hs).2 c2, bnd2_s, if_pos rfl]
        by_cases c3 : 3 = k
        · rw [cw6_3, (h 3 (by decide) s hs).1 c3, bnd2_s, if_neg (show ¬ (1 : Int32) = 0 by decide), if_pos (show k < 13 by omega), ← c3]
          rfl
        · rw [cw6_3, (h 3 (by decide) s hs).2 c3, bnd2_s, if_pos rfl]
          by_cases c4 : 4 = k
          · rw [cw6_4, (h 4 (by decide) s hs).1 c4, bnd2_s, if_neg (show ¬ (1 : Int32) = 0 by decide), if_pos (show k < 13 by omega), ← c4]
            rfl
          · rw [cw6_4, (h 4 (by decide) s hs).2 c4, bnd2_s, if_pos rfl]
            by_cases c5 : 5 = k
            · rw [cw6_5, (h 5 (by decide) s hs).1 c5, bnd2_s, if_neg (show ¬ (1 : Int32) = 0 by decide), if_pos (show k < 13 by omega), ← c5]
              rfl
            · rw [cw6_5, (h 5 (by decide) s hs).2 c5, bnd2_s, if_pos rfl]
              by_cases c6 : 6 = k
              · rw [cw6_6, (h 6 (by decide) s hs).1 c6, bnd2_s, if_neg (show ¬ (1 : Int32) = 0 by decide), if_pos (show k < 13 by omega), ← c6]
                rfl
              · rw [cw6_6, (h 6 (by decide) s hs).2 c6, bnd2_s, if_pos rfl]
                by_cases c7 : 7 = k
                · rw [cw6_7, (h 7 (by decide) s hs).1 c7, bnd2_s, if_neg (show ¬ (1 : Int32) = 0 by decide), if_pos (show k < 13 by omega), ← c7]
                  rfl
                · rw [cw6_7, (h 7 (by decide) s hs).2 c7, bnd2_s, if_pos rfl]
                  by_cases c8 : 8 = k
                  · rw [cw6_8, (h 8 (by decide) s hs).1 c8, bnd2_s, if_neg (show ¬ (1 : Int32) = 0 by decide), if_pos (show k < 13 by omega), ← c8]
                    rfl
                  · rw [cw6_8, (h 8 (by decide) s hs).2 c8, bnd2_s, if_pos rfl]
                    by_cases c9 : 9 = k
                    · rw [cw6_9, (h 9 (by decide) s hs).1 c9, bnd2_s, if_neg (show ¬ (1 : Int32) = 0 by decide), if_pos (show k < 13 by omega), ← c9]
                      rfl
                    · rw [cw6_9, (h 9 (by decide) s hs).2 c9, bnd2_s, if_pos rfl]
                      by_cases c10 : 10 = k
                      · rw [cw6_10, (h 10 (by decide) s hs).1 c10, bnd2_s, if_neg (show ¬ (1 : Int32) = 0 by decide), if_pos (show k < 13 by omega), ← c10]
                        rfl
                      · rw [cw6_10, (h 10 (by decide) s hs).2 c10, bnd2_s, if_pos rfl]
                        by_cases c11 : 11 = k
                        · rw [cw6_11, (h 11 (by decide) s hs).1 c11, bnd2_s, if_neg (show ¬ (1 : Int32) = 0 by decide), if_pos (show k < 13 by omega), ← c11]
                          rfl
                        · rw [cw6_11, (h 11 (by decide) s hs).2 c11, bnd2_s, if_pos rfl]
                          by_cases c12 : 12 = k
                          · rw [cw6_12, (h 12 (by decide) s hs).1 c12, bnd2_s, if_neg (show ¬ (1 : Int32) = 0 by decide), if_pos (show k < 13 by omega), ← c12]
                            rfl
                          · rw [cw6_12, (h 12 (by decide) s hs).2 c12, bnd2_s, if_pos rfl]
                            have : ¬ k < 13 → True := fun _ => trivial
                            rw [if_neg (show ¬ k < 13 by omega)]
theorem m_ladWord {k : Nat} (h : HW b tape n s 0 k) (hj : Rn isSp b n j s) : f12_isLadderWord tape (nn n) (nn j) = some (if k < 4 then 1 else 0, nn s) := by
  unfold f12_isLadderWord f12_isLadderWord_J40
  have hs := hj.mid
  by_cases c0 : 0 = k
  · rw [cw0_0, (h 0 (by decide) j hj).1 c0, bnd2_s, if_neg (show ¬ (1 : Int32) = 0 by decide), if_pos (show k < 4 by omega)]
  · rw [cw0_0, (h 0 (by decide) j hj).2 c0, bnd2_s, if_pos rfl]
    by_cases c1 : 1 = k
    · rw [cw0_1, (h 1 (by decide) s hs).1 c1, bnd2_s, if_neg (show ¬ (1 : Int32) = 0 by decide), if_pos (show k < 4 by omega)]
    · rw [cw0_1, (h 1 (by decide) s hs).2 c1, bnd2_s, if_pos rfl]
      by_cases c2 : 2 = k
      · rw [cw0_2, (h 2 (by decide) s hs).1 c2, bnd2_s, if_neg (show ¬ (1 : Int32) = 0 by decide), if_pos (show k < 4 by omega)]
      · rw [cw0_2, (h 2 (by decide) s hs).2 c2, bnd2_s, if_pos rfl]
        by_cases c3 : 3 = k
        · rw [cw0_3, (h 3 (by decide) s hs).1 c3, bnd2_s, if_neg (show ¬ (1 : Int32) = 0 by decide), if_pos (show k < 4 by omega)]
        · rw [cw0_3, (h 3 (by decide) s hs).2 c3, bnd2_s, if_pos rfl]
          rw [if_neg (show ¬ k < 4 by omega)]
end
