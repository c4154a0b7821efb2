/-! the tape: bytes of the class, signed bytes of the reference -/
def sb (b : Nat) : Int32 := (Int32.toInt8 (nn b)).toInt32
theorem sb_and : ∀ b, b < 256 → sb b &&& 255 = nn b := by decide +kernel
theorem sb_32 : ∀ b, b < 256 → (sb b = 32 ↔ b = 32) := by decide +kernel
theorem sb_lo : ∀ b, b < 128 → sb b = nn b := by decide +kernel
theorem sb_hi : ∀ b, b < 256 → 128 ≤ b → sb b < 0 := by decide +kernel
theorem byt_num (x y k : Nat) (hk : k ≤ 24) (hx : x < 4294967296) : ((x : Int) - 4294967296 * y) / (2 ^ k : Nat) % 256 = ((x / 2 ^ k % 256 : Nat) : Int) := by
  have hj : k + (24 - k) = 24 := by omega
  generalize 24 - k = j at hj
  have e : (4294967296 : Int) = ((2 ^ k : Nat) : Int) * (256 * ((2 ^ j : Nat) : Int)) := by
    have h1 : (2 : Nat) ^ k * 2 ^ j = 2 ^ 24 := by rw [← Nat.pow_add, hj]
    have h2 : ((2 ^ k : Nat) : Int) * ((2 ^ j : Nat) : Int) = 16777216 := by
      rw [← Int.natCast_mul, h1]; rfl
    rw [Int.mul_left_comm, h2]; rfl
  have hp : ((2 ^ k : Nat) : Int) ≠ 0 := by
    have := Nat.two_pow_pos k
    omega
  rw [e, Int.mul_assoc, Int.sub_eq_add_neg, ← Int.mul_neg, Int.add_mul_ediv_left _ _ hp]
  have : (256 * ((2 ^ j : Nat) : Int) * (y : Int)) = 256 * (((2 ^ j : Nat) : Int) * y) := Int.mul_assoc _ _ _
  rw [this, ← Int.mul_neg, Int.add_mul_emod_self_left]
  rfl
theorem byt (a : Int32) (k : Nat) (hk : k ≤ 24) (s : Int32) (h1 : ((s.toUInt32 &&& Int32.toUInt32 31).toBitVec % 32).toNat = k) (h2 : ((s &&& 31).toBitVec.smod 32).toNat = k) :
    ∃ b, b < 256 ∧ ((Int32.toUInt32 a >>> (Int32.toUInt32 s &&& Int32.toUInt32 31)).toInt32 &&& 255) = nn b ∧ vp_nar .byte (Int8.toInt32 (Int32.toInt8 (a >>> (s &&& 31)))) = sb b := by
  have hlt := a.toBitVec.isLt
  refine ⟨a.toBitVec.toNat / 2 ^ k % 256, Nat.mod_lt _ (by decide), ?_, ?_⟩
  · rw [pk_and _ 8 (by decide), pk_ushr a s k h1]; rfl
  · have e0 : vp_nar .byte (Int8.toInt32 (Int32.toInt8 (a >>> (s &&& 31)))) = Int8.toInt32 (Int32.toInt8 (Int8.toInt32 (Int32.toInt8 (a >>> (s &&& 31))))) := rfl
    rw [e0]
    unfold sb
    congr 1
    apply Int8.toInt_inj.mp
    rw [Int32.toInt_toInt8, Int8.toInt_toInt32, Int32.toInt_toInt8, Int32.toInt_toInt8, Int.bmod_bmod, pk_shr a _ k h2, nn_int (by have := Nat.mod_lt (a.toBitVec.toNat / 2 ^ k) (show 256 > 0 by decide); omega), ← Int.emod_bmod, Int.shiftRight_eq_div_pow]
    have e1 : ∃ y : Nat, a.toInt = (a.toBitVec.toNat : Int) - 4294967296 * y := by
      rw [show a.toInt = a.toBitVec.toInt from rfl, BitVec.toInt_eq_toNat_cond]
      split
      · exact ⟨0, by omega⟩
      · exact ⟨1, by omega⟩
    obtain ⟨y, e1⟩ := e1
    have e2 := byt_num a.toBitVec.toNat y k hk hlt
    rw [e1]
    exact congrArg (fun z : Int => z.bmod 256) e2
/-- the tape of the class, that of the reference -/
def TPr (bytes : Nat → Int32) (len : Int32) (tape : Nat → Int32) (taped : Int32) (n : Nat) : Prop := n ≤ 400 ∧ len = nn n ∧ taped = nn n ∧ ∀ i, i < n → ∃ b, b < 256 ∧ bytes i = nn b ∧ tape i = sb b
section
variable {bytes tape : Nat → Int32} {len taped : Int32} {n : Nat}
theorem TPr.push (h : TPr bytes len tape taped n) (hn : n < 400) {x y : Int32} {b : Nat} (hb : b < 256) (hx : x = nn b) (hy : y = sb b) : TPr (upd bytes n x) (nn (n + 1)) (upd tape n y) (nn (n + 1)) (n + 1) := by
  refine ⟨by omega, rfl, rfl, fun i hi => ?_⟩
  by_cases e : i = n
  · subst e
    exact ⟨b, hb, by rw [upd_at]; exact hx, by rw [upd_at]; exact hy⟩
  · obtain ⟨c, h1, h2, h3⟩ := h.2.2.2 i (by omega)
    exact ⟨c, h1, (upd_ne e).trans h2, (upd_ne e).trans h3⟩
theorem TPr.cut (h : TPr bytes len tape taped n) {m : Nat} (hm : m ≤ n) : TPr bytes (nn m) tape (nn m) m :=
  ⟨by have := h.1; omega, rfl, rfl, fun i hi => h.2.2.2 i (by omega)⟩
def shN (k : Nat) : Nat := 24 - 8 * k
theorem r_four (h : TPr bytes len tape taped n) (hn : n + 4 ≤ 400) (a : Int32) : ∃ bytes1 tape1, f9_append bytes len a = some (bytes1, nn (n + 4)) ∧ f12_four tape taped a = some (tape1, nn (n + 4)) ∧ TPr bytes1 (nn (n + 4)) tape1 (nn (n + 4)) (n + 4) := by
  have key := iter_twoF (B := fun (z : (Nat → Int32) × Int32 × Int32) => f9_append_B3 a z.1 z.2.1 z.2.2) (C := fun (z : (Nat → Int32) × Int32 × Int32) => f12_four_B3 a z.1 z.2.1 z.2.2) (s := (bytes, len, (24 : Int32))) (t := (tape, taped, (24 : Int32))) (n := 4)
    (I := fun m z w => ∃ j, m + j = 4 ∧ TPr z.1 z.2.1 w.1 w.2.1 (n + j) ∧ z.2.2 = nn 24 - nn (8 * j) ∧ w.2.2 = nn 24 - nn (8 * j))
    (Po := fun z w => TPr z.1 z.2 w.1 w.2 (n + 4))
    ⟨0, rfl, h, rfl, rfl⟩ (by omega)
    (by
      rintro m ⟨by1, l1, v1⟩ ⟨tp1, l2, v2⟩ ⟨j, hj, hT, rfl, rfl⟩
      dsimp only at hT ⊢
      unfold f9_append_B3 f12_four_B3
      by_cases h4 : j = 4
      · right
        subst h4
        rw [if_pos (by decide), if_pos (by decide)]
        exact ⟨_, _, rfl, rfl, hT⟩
      · left
        have hT4 := hT.2.2.2
        obtain ⟨q1, rfl, rfl, q4⟩ := hT
        have hs : ∃ k, k ≤ 24 ∧ (((nn 24 - nn (8 * j)).toUInt32 &&& Int32.toUInt32 31).toBitVec % 32).toNat = k ∧ (((nn 24 - nn (8 * j)) &&& 31).toBitVec.smod 32).toNat = k ∧ ¬ (nn 24 - nn (8 * j)) < 0 ∧ (nn 24 - nn (8 * j)) + -8 = nn 24 - nn (8 * (j + 1)) := by
          rcases (show j = 0 ∨ j = 1 ∨ j = 2 ∨ j = 3 by omega) with rfl | rfl | rfl | rfl
          · exact ⟨24, by decide, by decide, by decide, by decide, by decide⟩
          · exact ⟨16, by decide, by decide, by decide, by decide, by decide⟩
          · exact ⟨8, by decide, by decide, by decide, by decide, by decide⟩
          · exact ⟨0, by decide, by decide, by decide, by decide, by decide⟩
        obtain ⟨k, hk, s1, s2, s3, s4⟩ := hs
        obtain ⟨b, hb, b1, b2⟩ := byt a k hk _ s1 s2
        rw [if_neg s3, if_neg s3, if_neg (show ¬ (400 : Int32) ≤ nn (n + j) from nle (a := 400) (by omega) (by omega) (by omega)), lt_df, nn_nat (by omega), if_neg (ng (by omega) (by omega)), lt_df, lt_df, lt_df, lt_df, if_neg (ng (by omega) (by omega)), lt_df, lt_df, lt_df, nn_succ, s4]
        exact ⟨_, _, m - 1, rfl, rfl, by omega, j + 1, by omega, TPr.push ⟨q1, rfl, rfl, q4⟩ (by omega) hb b1 b2, rfl, rfl⟩)
  obtain ⟨⟨by1, l1⟩, ⟨tp1, l2⟩, e1, e2, hT⟩ := key
  have hT2 := hT
  obtain ⟨-, rfl, rfl, -⟩ := hT2
  refine ⟨by1, tp1, ?_, ?_, hT⟩
  · unfold f9_append; rw [e1, bnd2_s]
  · unfold f12_four; rw [e2, bnd2_s]
theorem r_feed (h : TPr bytes len tape taped n) (a b c d e : Int32) : ∃ v bytes1 tape1 len1 n1, f11_feed bytes len a b c d e = some (v, bytes1, len1) ∧ f12_feed tape taped a b c d e = some (v, tape1, len1) ∧ TPr bytes1 len1 tape1 len1 n1 := by
  have h' := h
  obtain ⟨q1, rfl, rfl, q4⟩ := h'
  unfold f11_feed f12_feed
  rw [show nn n + 20 = nn (n + 20) from nn_add n 20]
  by_cases hn : n + 20 ≤ 400
  · obtain ⟨b1, t1, j1, k1, h1⟩ := r_four h (by omega) a
    obtain ⟨b2, t2, j2, k2, h2⟩ := r_four h1 (by omega) b
    obtain ⟨b3, t3, j3, k3, h3⟩ := r_four h2 (by omega) c
    obtain ⟨b4, t4, j4, k4, h4⟩ := r_four h3 (by omega) d
    obtain ⟨b5, t5, j5, k5, h5⟩ := r_four h4 (by omega) e
    rw [if_pos (show nn (n + 20) ≤ 400 from nleT (b := 400) (by omega) (by omega) hn), if_pos (show nn (n + 20) ≤ 400 from nleT (b := 400) (by omega) (by omega) hn), j1, bnd2_s, j2, bnd2_s, j3, bnd2_s, j4, bnd2_s, j5, bnd2_s, k1, bnd2_s, k2, bnd2_s, k3, bnd2_s, k4, bnd2_s, k5, bnd2_s]
    exact ⟨_, _, _, _, _, rfl, rfl, h5⟩
  · rw [if_neg (show ¬ nn (n + 20) ≤ 400 from nle (b := 400) (by omega) (by omega) hn), if_neg (show ¬ nn (n + 20) ≤ 400 from nle (b := 400) (by omega) (by omega) hn)]
    exact ⟨_, _, _, _, n, rfl, rfl, h⟩
theorem r_end (h : TPr bytes len tape taped n) (a : Int32) : ∃ v len1 n1, f11_end len a = some (v, len1) ∧ f12_end taped a = some (v, len1) ∧ TPr bytes len1 tape len1 n1 := by
  have h' := h
  obtain ⟨q1, rfl, rfl, q4⟩ := h'
  unfold f11_end f12_end
  by_cases h0 : a < 0
  · rw [if_pos h0]; exact ⟨_, _, n, rfl, rfl, h⟩
  · rw [if_neg h0]
    by_cases h1 : a ≤ nn n
    · obtain ⟨m, hm, rfl⟩ := nn_of' h0
      rw [nn_le hm (by omega)] at h1
      rw [if_pos (nleT (by omega) (by omega) h1)]
      exact ⟨_, _, m, rfl, rfl, h.cut h1⟩
    · rw [if_neg h1]; exact ⟨_, _, n, rfl, rfl, h⟩
end
theorem r_seed {x : Int32} (hx : ∃ d, d < 2147483648 ∧ x = nn d) (a : Int32) : ∃ v x1, f11_seed x a = some (v, x1) ∧ f12_seed x a = some (v, x1) ∧ ∃ d, d < 2147483648 ∧ x1 = nn d := by
  unfold f11_seed f12_seed
  by_cases h0 : 0 ≤ a
  · rw [if_pos h0]; exact ⟨_, _, rfl, rfl, nn_of h0⟩
  · rw [if_neg h0]; exact ⟨_, _, rfl, rfl, hx⟩
/-! images -/
section
variable {S : Nat → Int32} {R P : Nat} {hour broken rungs people : Int32} {rung grip want slips worn room strength weight told : Nat → Int32}
/-- the row that image k keeps -/
def imS (im : Nat → Int32) (k : Nat) : Nat → Int32 := fun i => im (110 * k + i)
theorem ix_im {k i : Nat} (hk : k < 4) (hi : i < 110) : Int32.toNatClampNeg ((110 : Int32) * nn k + nn i) = 110 * k + i ∧ ¬ ((110 : Int32) * nn k + nn i < 0 ∨ 440 ≤ 110 * k + i) := by
  have e : (110 : Int32) * nn k + nn i = nn (110 * k + i) := by rw [show (110 : Int32) = nn 110 from rfl, nn_mul, nn_add]
  rw [e, nn_nat (by omega)]
  exact ⟨rfl, ng (by omega) (by omega)⟩
def imP (S im : Nat → Int32) (k j : Nat) : Nat → Int32 := fun i => if 110 * k ≤ i ∧ i < 110 * k + j then S (i - 110 * k) else im i
theorem m_image {k : Nat} (hk : k < 4) {im : Nat → Int32} : iter (fun (z : (Nat → Int32) × Int32) => f12_image_B43 S (nn k) z.1 z.2) FUEL (im, (0 : Int32)) = some (imP S im k 110) := by
  rw [iter_for (s := (im, (0 : Int32))) (st := fun j => (imP S im k j, nn j)) (n := 110) (out := imP S im k 110) ?h0 (by omega) ?hs ?he]
  case h0 =>
    refine Prod.ext ?_ rfl
    funext i
    show imP S im k 0 i = im i
    unfold imP
    rw [if_neg (by omega)]
  case hs =>
    intro j hj
    unfold f12_image_B43
    dsimp only
    rw [if_neg (show ¬ (110 : Int32) ≤ nn j from nle (a := 110) (by omega) (by omega) (by omega)), nn_nat (show j < 2147483648 by omega), if_neg (ng (by omega) (by omega)), lt_df, (ix_im hk hj).1, if_neg (ix_im hk hj).2, lt_df, lt_df, nn_succ]
    congr 3
    funext i
    unfold imP upd
    by_cases h1 : i = 110 * k + j
    · subst h1
      rw [if_pos rfl, if_pos (by omega)]
      congr 1
      omega
    · rw [if_neg h1]
      show (if 110 * k ≤ i ∧ i < 110 * k + j then S (i - 110 * k) else im i) = _
      by_cases h2 : 110 * k ≤ i ∧ i < 110 * k + j
      · rw [if_pos h2, if_pos (by omega)]
      · rw [if_neg h2, if_neg (by omega)]
  case he =>
    unfold f12_image_B43
    dsimp only
    rw [if_pos (show (110 : Int32) ≤ nn 110 by decide)]
theorem imS_self {k : Nat} {im : Nat → Int32} {i : Nat} (hi : i < 110) : imS (imP S im k 110) k i = S i := by
  unfold imS imP
  rw [if_pos (by omega)]
  congr 1
  omega
theorem imS_other {k k' : Nat} {im : Nat → Int32} {i : Nat} (hi : i < 110) (h : k' ≠ k) : imS (imP S im k 110) k' i = imS im k' i := by
  unfold imS imP
  rw [if_neg (by omega)]
theorem m_back {k : Nat} (hk : k < 4) {im : Nat → Int32} : iter (fun (z : (Nat → Int32) × Int32) => f12_back_B50 (nn k) im z.1 z.2) FUEL (S, (0 : Int32)) = some (ov 110 (imS im k) S) := by
  rw [iter_for (s := (S, (0 : Int32))) (st := fun j => (ov j (imS im k) S, nn j)) (n := 110) (out := ov 110 (imS im k) S) (by rw [ov_0]; rfl) (by omega) ?hs ?he]
  case hs =>
    intro j hj
    unfold f12_back_B50
    dsimp only
    rw [if_neg (show ¬ (110 : Int32) ≤ nn j from nle (a := 110) (by omega) (by omega) (by omega)), nn_nat (show j < 2147483648 by omega), (ix_im hk hj).1, if_neg (ix_im hk hj).2, lt_df, if_neg (ng (by omega) (by omega)), lt_df, lt_df, nn_succ]
    rw [show im (110 * k + j) = imS im k j from rfl, ov_upd]
  case he =>
    unfold f12_back_B50
    dsimp only
    rw [if_pos (show (110 : Int32) ≤ nn 110 by decide)]
end
