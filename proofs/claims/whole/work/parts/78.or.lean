/-! a rule's text: items laid by both, values -/
def CC (code : Nat → Int32) (size : Int32) (its : List (Nat × Nat)) : Prop := size = nn its.length ∧ ∀ i (h : i < its.length), code i = nn (encC its[i])
def CM (k : Nat) (sg0 sgn len : Nat → Int32) (its : List (Nat × Nat)) : Prop := len k = nn its.length ∧ (∀ i (h : i < its.length), sgn (400 * k + i) = nn (encM its[i])) ∧ ∀ x, ¬ (400 * k ≤ x ∧ x < 400 * k + 400) → sgn x = sg0 x
def FR (k : Nat) (sg0 sgn : Nat → Int32) : Prop := ∀ x, ¬ (400 * k ≤ x ∧ x < 400 * k + 400) → sgn x = sg0 x
theorem or20 {k v : Nat} (hk : k < 3) (hv : v < 1048576) : (nn k <<< (20 &&& 31)) ||| nn v = nn (k * 1048576 + v) := by
  apply Int32.toBitVec_inj.mp
  apply BitVec.eq_of_toNat_eq
  show ((BitVec.ofNat 32 k <<< ((20 &&& 31 : Int32).toBitVec.smod 32).toNat) ||| BitVec.ofNat 32 v).toNat = (BitVec.ofNat 32 (k * 1048576 + v)).toNat
  rw [show ((20 &&& 31 : Int32).toBitVec.smod 32).toNat = 20 by decide, BitVec.toNat_or, BitVec.toNat_shiftLeft, BitVec.toNat_ofNat, BitVec.toNat_ofNat, BitVec.toNat_ofNat]
  have h1 : k % 2 ^ 32 = k := Nat.mod_eq_of_lt (by omega)
  have h2 : v % 2 ^ 32 = v := Nat.mod_eq_of_lt (by omega)
  have h3 : (k * 1048576 + v) % 2 ^ 32 = k * 1048576 + v := Nat.mod_eq_of_lt (by omega)
  have h4 : k <<< 20 = k * 1048576 := Nat.shiftLeft_eq k 20
  rw [h1, h2, h3, h4, Nat.mod_eq_of_lt (show k * 1048576 < 2 ^ 32 by omega), ← h4, ← Nat.shiftLeft_add_eq_or_of_lt (show v < 2 ^ 20 by omega) k]
section
variable {b : Nat → Nat} {bytes tape : Nat → Int32} {n i j s e k u : Nat} {code sg0 sgn len : Nat → Int32} {size : Int32} {its : List (Nat × Nat)}
theorem snoc_at {P : Nat → Nat × Nat → Prop} {it : Nat × Nat} (h1 : ∀ i (h : i < its.length), P i its[i]) (h2 : P its.length it) : ∀ i (h : i < (its ++ [it]).length), P i (its ++ [it])[i] := by
  intro i h
  by_cases c : i < its.length
  · rw [List.getElem_append_left c]; exact h1 i c
  · have : i = its.length := by rw [List.length_append, List.length_singleton] at h; omega
    subst this
    rw [List.getElem_append_right (Nat.le_refl _)]
    simp only [Nat.sub_self, List.getElem_cons_zero]
    exact h2
theorem c_emit {kind v : Nat} {it : Nat × Nat} (hC : CC code size its) (hl : its.length < 400) (hk : kind < 3) (hv : v < 1048576) (he : encC it = kind * 1048576 + v) : ∃ code1 size1, f6_emit code size (nn kind) (nn v) = some (code1, size1) ∧ CC code1 size1 (its ++ [it]) := by
  refine ⟨upd code its.length (nn (encC it)), nn (its.length + 1), ?_, by rw [List.length_append]; rfl, snoc_at (P := fun i x => upd code its.length (nn (encC it)) i = nn (encC x)) (fun i h => ?_) upd_at⟩
  · unfold f6_emit
    rw [hC.1, if_neg (show ¬ (400 : Int32) ≤ nn its.length from nle (a := 400) (by decide) (by omega) (by omega)), or20 hk hv, lt_df, nn_nat (by omega), if_neg (ng (by omega) (by omega)), lt_df, nn_succ, lt_df, he]
  · rw [upd_ne (by omega)]; exact hC.2 i h
theorem m_puts {a1 a2 : Int32} {it : Nat × Nat} (hM : CM k sg0 sgn len its) (hk : k < 6) (hl : its.length < 400) (he : a1 + 16 * a2 = nn (encM it)) : ∃ sgn1 len1, f12_puts sgn len (nn k) a1 a2 = some (sgn1, len1) ∧ CM k sg0 sgn1 len1 (its ++ [it]) := by
  have e400 : (400 : Int32) * nn k + nn its.length = nn (400 * k + its.length) := by rw [show (400 : Int32) * nn k = nn (400 * k) from nn_mul 400 k, nn_add]
  refine ⟨upd sgn (400 * k + its.length) (nn (encM it)), upd len k (nn (its.length + 1)), ?_, by rw [upd_at, List.length_append]; rfl, snoc_at (P := fun i x => upd sgn (400 * k + its.length) (nn (encM it)) (400 * k + i) = nn (encM x)) (fun i h => ?_) upd_at, fun x hx => ?_⟩
  · unfold f12_puts
    rw [nn_nat (show k < 2147483648 by omega), if_neg (ng (by omega) (by omega)), hM.1, e400, lt_df, nn_nat (show 400 * k + its.length < 2147483648 by omega), if_neg (ng (by omega) (by omega)), he, lt_df, if_neg (ng (by omega) (by omega)), nn_succ, lt_df, if_neg (ng (by omega) (by omega)), lt_df]
  · rw [upd_ne (by omega)]; exact hM.2.1 i h
  · rw [upd_ne (by omega)]; exact hM.2.2 x hx
theorem c_op {o : Nat} (hC : CC code size its) (hl : its.length < 400) : ∃ code1 size1, f6_emit code size 2 (nn (opC o)) = some (code1, size1) ∧ CC code1 size1 (its ++ [(2, o)]) := by
  have := opC_lt o
  exact c_emit (kind := 2) (it := (2, o)) hC hl (by decide) (by omega) rfl
theorem m_op {o : Nat} (hM : CM k sg0 sgn len its) (hk : k < 6) (hl : its.length < 400) : ∃ sgn1 len1, f12_puts sgn len (nn k) (nn o) 0 = some (sgn1, len1) ∧ CM k sg0 sgn1 len1 (its ++ [(2, o)]) := by
  refine m_puts (it := (2, o)) hM hk hl ?_
  rw [show (16 : Int32) * 0 = 0 by decide, Int32.add_zero]
  rfl
/-- one value -/
theorem r_value {kind sign fault num : Int32} (hk : k < 6) (hx : TX b bytes tape n) (h : Rn isSp b n i s) (ht : Tk b n s kind sign e) (hC : CC code size its) (hM : CM k sg0 sgn len its) (hu : u ≤ 60) (hl : its.length ≤ i) :
    (∃ s1 k1 g1 e1 it code1 size1 sgn1 len1 num1, u < 60 ∧ s < e ∧ f6_readValue code size (nn u) bytes (nn n) kind sign fault (nn s) (nn e) = some (1, code1, size1, nn (u + 1), k1, g1, fault, nn s1, nn e1) ∧ f12_value tape (nn n) sgn len (nn i) 0 num (nn k) (nn u) = some (1, sgn1, len1, nn e, 0, num1, nn (u + 1)) ∧ Rn isSp b n e s1 ∧ Tk b n s1 k1 g1 e1 ∧ CC code1 size1 (its ++ [it]) ∧ CM k sg0 sgn1 len1 (its ++ [it]) ∧ SgS [it] ∧ cntP [it] = 1) ∨
    (∃ (w : Nat) (code1 : Nat → Int32) (size1 u1 k1 g1 st1 sp1 : Int32) (sgn1 len1 : Nat → Int32) (nx1 num1 ma1 : Int32), 0 < w ∧ (w < 5000 ∧ 0 ≤ size1 ∧ FR k sg0 sgn1) ∧ f6_readValue code size (nn u) bytes (nn n) kind sign fault (nn s) (nn e) = some (0, code1, size1, u1, k1, g1, nn w, st1, sp1) ∧ f12_value tape (nn n) sgn len (nn i) 0 num (nn k) (nn u) = some (0, sgn1, len1, nx1, nn w, num1, ma1)) := by
  have hn := hx.1
  have hse := ht.se
  have hi := h.1
  have bad : ∀ q, q < 5 → 0 < 1 + 8 * s + q ∧ (1 + 8 * s + q < 5000 ∧ 0 ≤ size ∧ FR k sg0 sgn) := fun q hq => ⟨by omega, by omega, by rw [hC.1]; exact n0le (by omega), hM.2.2⟩
  have k60 : (60 : Int32) = nn 60 := rfl
  unfold f6_readValue f12_value
  rw [m_see hx h, bnd2_s]
  rcases ht.num with ⟨rfl, k1, k2, k3⟩ | ⟨k1, k2⟩
  · have hle : s < e := k3.up k1 k2
    rw [if_pos rfl, m_dig1 hx k1 k2, bnd1_s, if_neg (show ¬ (1 : Int32) = 0 by decide)]
    unfold f6_readValue_J16
    rw [if_neg (show ¬ (1 : Int32) = 0 by decide), c_numAt hx k3, bnd1_s]
    unfold f6_readValue_J40
    have hd : ∀ q, q < e - s → isDi (b (s + q)) = true := fun q hq => k3.2.2.1 (s + q) (by omega) (by omega)
    have hnum : f12_numberHere tape (nn n) (nn s) 0 num 0 99999 = if e - s ≤ 5 then some (1, nn e, 0, nn (numV b s (e - s))) else some (0, nn e, nn (1 + 8 * s + 1), nn (numV b s (min (e - s) 5))) := by
      unfold f12_numberHere
      rw [m_see hx h.mid, bnd2_s, m_dig1 hx k1 k2, bnd1_s, if_neg (show ¬ (1 : Int32) = 0 by decide), m_numL hx k3, bnd2_s, nn_sub k3.1]
      by_cases c : e - s ≤ 5
      · have hv := numV_5 c hd
        have i2 : f12_in (Int32.toInt64 (nn (numV b s (e - s)))) (Int32.toInt64 0) (Int32.toInt64 99999) = _ := m_in (a := nn (numV b s (e - s))) (lo := 0) (hi := 99999) (by decide) (by decide)
        rw [if_neg (show ¬ 5 < nn (e - s) from nlt (a := 5) (by decide) (by omega) (by omega)), show min (e - s) 5 = e - s by omega, i2, bnd1_s, if_neg (nlt (by omega) (by decide) (by omega)), if_neg (nlt (by decide) (by omega) (by omega)), if_neg (show ¬ (1 : Int32) = 0 by decide), if_pos c]
        rfl
      · unfold f12_numberHere_J117
        rw [if_pos (show 5 < nn (e - s) from nltT (a := 5) (by decide) (by omega) (by omega)), show f12_fails 0 1 (nn s) = _ from m_fails s 1, bnd2_s, if_pos rfl, if_neg c]
    rw [hnum]
    by_cases c : e - s ≤ 5
    · have hv := numV_5 c hd
      rw [if_pos c, if_pos c, bnd4_s, if_neg (nn_ne_m1 (by omega)), if_neg (show ¬ (1 : Int32) = 0 by decide)]
      unfold f12_makes
      by_cases cu : u = 60
      · right
        subst cu
        rw [if_neg (show ¬ nn 60 < 60 by decide), show f9_refuse fault (nn s) 3 = _ from c_refuse fault s 3, bnd2_s, if_pos (Or.inl rfl), if_pos (show nn 60 = 60 from rfl), show f12_fails 0 3 (nn s) = _ from m_fails s 3, bnd2_s, if_pos (Or.inl rfl), bnd3_s, if_pos rfl]
        exact ⟨_, _, _, _, _, _, _, _, _, _, _, _, _, (bad 3 (by decide)).1, (bad 3 (by decide)).2, rfl, rfl⟩
      · left
        obtain ⟨s1, k1', g1, e1, t1, t2, t3⟩ := next_tk (kind := 2) (sign := sign) (nn s) hx hse.2.1
        obtain ⟨code1, size1, c1, c2⟩ := c_emit (kind := 0) (v := numV b s (e - s)) (it := (0, numV b s (e - s))) hC (by omega) (by decide) (by omega) (by show numV b s (e - s) = _; omega)
        obtain ⟨sgn1, len1, m1, m2⟩ := m_puts (a1 := 0) (a2 := nn (numV b s (e - s))) (it := (0, numV b s (e - s))) hM hk (by omega) (by
          rw [show (16 : Int32) * nn (numV b s (e - s)) = nn (16 * numV b s (e - s)) from nn_mul 16 _, Int32.zero_add]; rfl)
        rw [if_pos (show nn u < 60 from nltT (b := 60) (by omega) (by decide) (by omega)), nn_succ, lt_df, t2, bnd4_s, if_neg (show ¬ (1 : Int32) = 0 by decide)]
        unfold f6_readValue_J108
        rw [show f6_emit code size 0 (nn (numV b s (e - s))) = _ from c1, bnd2_s, if_neg (show ¬ nn u = 60 from nne (b := 60) (by omega) (by decide) cu), lt_df, bnd3_s, if_neg (show ¬ (1 : Int32) = 0 by decide), m1, bnd2_s]
        exact ⟨s1, k1', g1, e1, _, code1, size1, sgn1, len1, _, by omega, hle, rfl, rfl, t1, t3, c2, m2, SgS.num hv, rfl⟩
    · right
      rw [if_neg c, if_neg c, bnd4_s, if_pos rfl, if_pos rfl, if_neg (show ¬ (1 : Int32) = 0 by decide)]
      unfold f6_readValue_J59
      rw [show f9_refuse fault (nn s) 1 = _ from c_refuse fault s 1, bnd2_s, if_pos (Or.inl rfl)]
      exact ⟨_, _, _, _, _, _, _, _, _, _, _, _, _, (bad 1 (by decide)).1, (bad 1 (by decide)).2, rfl, rfl⟩
  · rw [if_neg k1, m_dig0 hx ht.1 k2, bnd1_s, if_pos rfl]
    unfold f6_readValue_J16
    rw [if_pos rfl]
    unfold f6_readValue_J40
    rcases r_row (i := 6) (by decide) hx ht with ⟨w, w1, rfl, w3, w4, w5, w6⟩ | ⟨w1, w2⟩
    · have hw13 : w < 13 := w1
      rw [w5, bnd1_s, if_neg (nn_ne_m1 (by omega)), m_wordHere w6 h.mid, bnd2_s, if_pos hw13, if_pos (show (0 : Int32) ≤ nn w from n0le (by omega))]
      unfold f12_makes
      by_cases cu : u = 60
      · right
        subst cu
        rw [if_neg (show ¬ nn 60 < 60 by decide), show f9_refuse fault (nn s) 3 = _ from c_refuse fault s 3, bnd2_s, if_pos (Or.inl rfl), if_pos (show nn 60 = 60 from rfl), show f12_fails 0 3 (nn s) = _ from m_fails s 3, bnd2_s, if_pos (Or.inl rfl), bnd3_s, if_pos rfl]
        exact ⟨_, _, _, _, _, _, _, _, _, _, _, _, _, (bad 3 (by decide)).1, (bad 3 (by decide)).2, rfl, rfl⟩
      · left
        obtain ⟨s1, k1', g1, e1, t1, t2, t3⟩ := next_tk (kind := 1) (sign := sign) (nn s) hx hse.2.1
        obtain ⟨code1, size1, c1, c2⟩ := c_emit (kind := 1) (v := w) (it := (1, w)) hC (by omega) (by decide) (by omega) (by show 1048576 + w = _; omega)
        obtain ⟨sgn1, len1, m1, m2⟩ := m_puts (a1 := 1) (a2 := nn w) (it := (1, w)) hM hk (by omega) (by
          rw [show (16 : Int32) * nn w = nn (16 * w) from nn_mul 16 _]; exact nn_add 1 _)
        rw [if_pos (show nn u < 60 from nltT (b := 60) (by omega) (by decide) (by omega)), nn_succ, lt_df, t2, bnd4_s, if_pos rfl]
        unfold f6_readValue_J108
        rw [show f6_emit code size 1 (nn w) = _ from c1, bnd2_s, if_neg (show ¬ nn u = 60 from nne (b := 60) (by omega) (by decide) cu), lt_df, bnd3_s, if_neg (show ¬ (1 : Int32) = 0 by decide), m_passWord hx w4, bnd1_s, m1, bnd2_s]
        exact ⟨s1, k1', g1, e1, _, code1, size1, sgn1, len1, _, by omega, w3, rfl, rfl, t1, t3, c2, m2, SgS.word hw13, rfl⟩
    · right
      rw [w1, bnd1_s, if_pos rfl, if_pos rfl, m_wordHere (w2 13 (by decide)) h.mid, bnd2_s, if_neg (show ¬ 13 < 13 by decide), if_neg (show ¬ (0 : Int32) ≤ -1 by decide)]
      unfold f6_readValue_J59
      rw [show f9_refuse fault (nn s) 0 = _ from c_refuse fault s 0, bnd2_s, if_pos (Or.inl rfl), show f12_fails 0 0 (nn s) = _ from m_fails s 0, bnd2_s, if_pos (Or.inl rfl)]
      exact ⟨_, _, _, _, _, _, _, _, _, _, _, _, _, (bad 0 (by decide)).1, (bad 0 (by decide)).2, rfl, rfl⟩
end
