/-! words: the class compares letter by letter, the reference packs them into one number -/
def pkN (f : Nat → Nat) : Nat → Nat
  | 0 => 0
  | k + 1 => pkN f k * 256 + f k
def TW (b : Nat → Nat) (s e : Nat) (w : List Nat) : Prop := e = s + w.length ∧ ∀ q, q < w.length → b (s + q) = w.getD q 0
def pkW (w : List Nat) : Nat := pkN (fun q => w.getD q 0) w.length
theorem isLe_iff {x : Nat} : isLe x = true ↔ 97 ≤ x ∧ x ≤ 122 := by
  unfold isLe
  rw [Bool.and_eq_true]
  exact ⟨fun h => ⟨of_decide_eq_true h.1, of_decide_eq_true h.2⟩, fun h => ⟨decide_eq_true h.1, decide_eq_true h.2⟩⟩
theorem isDi_iff {x : Nat} : isDi x = true ↔ 48 ≤ x ∧ x ≤ 57 := by
  unfold isDi
  rw [Bool.and_eq_true]
  exact ⟨fun h => ⟨of_decide_eq_true h.1, of_decide_eq_true h.2⟩, fun h => ⟨decide_eq_true h.1, decide_eq_true h.2⟩⟩
theorem pkN_lt {f : Nat → Nat} : ∀ {k : Nat}, (∀ q, q < k → f q ≤ 122) → pkN f k * 2 < 256 ^ k
  | 0, _ => Nat.zero_lt_one
  | k + 1, h => by
    have ih := pkN_lt (k := k) (fun q hq => h q (by omega))
    have hk := h k (by omega)
    show (pkN f k * 256 + f k) * 2 < 256 ^ (k + 1)
    rw [Nat.pow_succ]
    omega
theorem pkN_inj : ∀ {k m : Nat} {f g : Nat → Nat}, (∀ q, q < k → isLe (f q) = true) → (∀ q, q < m → isLe (g q) = true) → pkN f k = pkN g m → k = m ∧ ∀ q, q < k → f q = g q
  | 0, 0, f, g, _, _, _ => ⟨rfl, fun q hq => absurd hq (Nat.not_lt_zero _)⟩
  | 0, m + 1, f, g, _, h2, h => by
    have := isLe_iff.mp (h2 m (by omega))
    have h3 : (0 : Nat) = pkN g m * 256 + g m := h
    omega
  | k + 1, 0, f, g, h1, _, h => by
    have := isLe_iff.mp (h1 k (by omega))
    have h3 : pkN f k * 256 + f k = 0 := h
    omega
  | k + 1, m + 1, f, g, h1, h2, h => by
    have a1 := isLe_iff.mp (h1 k (by omega))
    have a2 := isLe_iff.mp (h2 m (by omega))
    have h3 : pkN f k * 256 + f k = pkN g m * 256 + g m := h
    obtain ⟨rfl, h5⟩ := pkN_inj (k := k) (m := m) (f := f) (g := g) (fun q hq => h1 q (by omega)) (fun q hq => h2 q (by omega)) (by omega)
    refine ⟨rfl, fun q hq => ?_⟩
    by_cases e : q = k
    · subst e; omega
    · exact h5 q (by omega)
theorem pkN_congr {f g : Nat → Nat} : ∀ {k : Nat}, (∀ q, q < k → f q = g q) → pkN f k = pkN g k
  | 0, _ => rfl
  | k + 1, h => by
    show pkN f k * 256 + f k = pkN g k * 256 + g k
    rw [pkN_congr (fun q hq => h q (by omega)), h k (by omega)]
theorem lN_shl8 {v c : Nat} (hv : v < 36028797018963968) (hc : c < 256) : (lN v <<< (Int32.toInt64 8 &&& 63)) ||| lN c = lN (v * 256 + c) := by
  apply Int64.toBitVec_inj.mp
  apply BitVec.eq_of_toNat_eq
  show ((BitVec.ofNat 64 v <<< ((Int32.toInt64 8 &&& 63).toBitVec.smod 64).toNat) ||| BitVec.ofNat 64 c).toNat = (BitVec.ofNat 64 (v * 256 + c)).toNat
  rw [show ((Int32.toInt64 8 &&& 63).toBitVec.smod 64).toNat = 8 by decide, BitVec.toNat_or, BitVec.toNat_shiftLeft, BitVec.toNat_ofNat, BitVec.toNat_ofNat, BitVec.toNat_ofNat]
  have h1 : v % 2 ^ 64 = v := Nat.mod_eq_of_lt (by omega)
  have h2 : c % 2 ^ 64 = c := Nat.mod_eq_of_lt (by omega)
  have h3 : (v * 256 + c) % 2 ^ 64 = v * 256 + c := Nat.mod_eq_of_lt (by omega)
  have h4 : v <<< 8 = v * 256 := Nat.shiftLeft_eq v 8
  rw [h1, h2, h3, h4, Nat.mod_eq_of_lt (show v * 256 < 2 ^ 64 by omega), ← h4, ← Nat.shiftLeft_add_eq_or_of_lt (show c < 2 ^ 8 by omega) v]
theorem lN_inj {a b : Nat} (ha : a < 9223372036854775808) (hb : b < 9223372036854775808) (h : lN a = lN b) : a = b := by
  have := congrArg Int64.toInt h
  rw [show (lN a).toInt = (a : Int) from Int64.toInt_ofNat_of_lt (by omega), show (lN b).toInt = (b : Int) from Int64.toInt_ofNat_of_lt (by omega)] at this
  omega
def okW (w : List Nat) : Prop := 0 < w.length ∧ w.length ≤ 8 ∧ ∀ q, q < w.length → isLe (w.getD q 0) = true
section
variable {b : Nat → Nat} {bytes tape : Nat → Int32} {n i j s e : Nat}
theorem TW_pk {w : List Nat} (hL : Rn isLe b n s e) (hw : okW w) : TW b s e w ↔ pkN (fun q => b (s + q)) (e - s) = pkW w := by
  have h1 := hL.1
  constructor
  · rintro ⟨g1, g2⟩
    rw [show e - s = w.length by omega]
    exact pkN_congr g2
  · intro h
    obtain ⟨g1, g2⟩ := pkN_inj (fun q hq => hL.2.2.1 (s + q) (by omega) (by omega)) hw.2.2 h
    exact ⟨by omega, fun q hq => g2 q (by omega)⟩
theorem m_isWord {w : List Nat} {c : Int64} (hx : TX b bytes tape n) (h : Rn isSp b n i s) (hL : Rn isLe b n s e) (hw : okW w) (hc : c = lN (pkW w)) : (TW b s e w → f12_isWord tape (nn n) (nn i) c = some (1, nn s)) ∧ (¬ TW b s e w → f12_isWord tape (nn n) (nn i) c = some (0, nn s)) := by
  have hn := hx.1
  have hse := hL.1
  have hen := hL.2.1
  have hlet : ∀ q, q < e - s → isLe (b (s + q)) = true := fun q hq => hL.2.2.1 (s + q) (by omega) (by omega)
  have loop : iter (fun (z : Int64 × Int32) => f12_isWord_B10 tape (nn n) (nn s) z.1 z.2) FUEL ((0 : Int64), (0 : Int32)) = some (lN (pkN (fun q => b (s + q)) (min (e - s) 8)), nn (e - s)) := by
    refine iter_for (st := fun k => (lN (pkN (fun q => b (s + q)) (min k 8)), nn k)) (n := e - s) (out := (lN (pkN (fun q => b (s + q)) (min (e - s) 8)), nn (e - s))) rfl (by omega) (fun k hk => ?_) ?_
    · unfold f12_isWord_B10
      rw [nn_add, m_let1 hx (by omega) (hlet k hk), bnd1_s, if_neg (show ¬ (1 : Int32) = 0 by decide)]
      by_cases c8 : 8 ≤ k
      · rw [if_pos (show (8 : Int32) ≤ nn k from nleT (a := 8) (by decide) (by omega) c8), lt_df, nn_succ, show min (k + 1) 8 = 8 by omega, show min k 8 = 8 by omega]
      · obtain ⟨q1, q2, q3⟩ := hx.2 (s + k) (by omega)
        have hl := isLe_iff.mp (hlet k hk)
        have hpk := pkN_lt (f := fun q => b (s + q)) (k := k) (fun q hq => (isLe_iff.mp (hlet q (by omega))).2)
        have hp8 : 256 ^ k ≤ 256 ^ 7 := Nat.pow_le_pow_right (by decide) (by omega)
        have hv : pkN (fun q => b (s + q)) k < 36028797018963968 := by
          have : (256 : Nat) ^ 7 = 72057594037927936 := by decide
          omega
        rw [if_neg (show ¬ (8 : Int32) ≤ nn k from nle (a := 8) (by decide) (by omega) c8), nn_nat (show s + k < 2147483648 by omega), if_neg (ng (by omega) (by omega)), q3, sb_lo _ (by omega), show Int32.toInt64 (nn (b (s + k))) = lN (b (s + k)) from nI_l (by omega), lt_df, show min k 8 = k by omega, lN_shl8 hv q1, lt_df, lt_df, nn_succ, show min (k + 1) 8 = k + 1 by omega]
        rfl
    · unfold f12_isWord_B10
      rw [nn_add, show s + (e - s) = e by omega, m_let0 hx hen hL.2.2.2, bnd1_s, if_pos rfl]
  have hmain : f12_isWord tape (nn n) (nn i) c = if e - s = 0 then some (0, nn s) else if 9 ≤ e - s then some (0, nn s) else if lg_cmp (lN (pkN (fun q => b (s + q)) (min (e - s) 8))) c = 0 then some (1, nn s) else some (0, nn s) := by
    unfold f12_isWord
    rw [m_see hx h, bnd2_s, loop, bnd2_s]
    by_cases c0 : e - s = 0
    · rw [if_pos (show nn (e - s) ≤ 0 by rw [c0]; exact Int32.le_refl _), if_pos c0]
    · rw [if_neg (show ¬ nn (e - s) ≤ 0 from nle (b := 0) (by omega) (by decide) (by omega)), if_neg c0]
      by_cases c9 : 9 ≤ e - s
      · rw [if_pos (show (9 : Int32) ≤ nn (e - s) from nleT (a := 9) (by decide) (by omega) c9), if_pos c9]
      · rw [if_neg (show ¬ (9 : Int32) ≤ nn (e - s) from nle (a := 9) (by decide) (by omega) c9), if_neg c9]
  rw [hmain]
  obtain ⟨hw1, hw2, hw3⟩ := hw
  constructor
  · intro ht
    have hl := ht.1
    have hpk := (TW_pk hL ⟨hw1, hw2, hw3⟩).mp ht
    rw [if_neg (by omega), if_neg (by omega), show min (e - s) 8 = e - s by omega, hpk, hc, if_pos (by rw [lgc_eq])]
  · intro ht
    by_cases c0 : e - s = 0
    · rw [if_pos c0]
    · rw [if_neg c0]
      by_cases c9 : 9 ≤ e - s
      · rw [if_pos c9]
      · rw [if_neg c9, show min (e - s) 8 = e - s by omega, if_neg]
        rw [lgc_eq, hc]
        intro h
        refine ht ((TW_pk hL ⟨hw1, hw2, hw3⟩).mpr (lN_inj ?_ ?_ h))
        · have hpk := pkN_lt (f := fun q => b (s + q)) (k := e - s) (fun q hq => (isLe_iff.mp (hlet q (by omega))).2)
          have hp8 : 256 ^ (e - s) ≤ 256 ^ 8 := Nat.pow_le_pow_right (by decide) (by omega)
          have : (256 : Nat) ^ 8 = 18446744073709551616 := by decide
          omega
        · have hpk := pkN_lt (f := fun q => w.getD q 0) (k := w.length) (fun q hq => (isLe_iff.mp (hw3 q hq)).2)
          have hp8 : 256 ^ w.length ≤ 256 ^ 8 := Nat.pow_le_pow_right (by decide) (by omega)
          have : (256 : Nat) ^ 8 = 18446744073709551616 := by decide
          show pkN (fun q => w.getD q 0) w.length < _
          omega
end
/-- the class's rows of words -/
def rowW : Nat → List (List Nat)
  | 0 => [[108, 97, 100, 100, 101, 114], [114, 117, 110, 103], [98, 114, 111, 107, 101, 110], [112, 101, 114, 115, 111, 110]]
  | 1 => [[99, 108, 105, 109, 98]]
  | 2 => [[105, 102]]
  | 3 => [[97, 110, 100]]
  | 4 => [[111, 114]]
  | 5 => [[110, 111, 116]]
  | _ => [[112, 101, 114, 115, 111, 110], [114, 117, 110, 103], [119, 97, 110, 116], [119, 101, 105, 103, 104, 116], [103, 114, 105, 112], [116, 111, 108, 100], [104, 111, 117, 114], [104, 101, 114, 101], [97, 98, 111, 118, 101], [98, 101, 108, 111, 119], [119, 111, 114, 110], [115, 116, 114, 101, 110, 103, 116, 104], [115, 108, 105, 112, 115]]
def offW : List (List Nat) → Nat → Nat
  | _, 0 => 0
  | [], _ + 1 => 0
  | w :: r, k + 1 => w.length + 1 + offW r k
theorem offW_0 : ∀ W : List (List Nat), offW W 0 = 0
  | [] => rfl
  | _ :: _ => rfl
theorem row_ok : ∀ i, i < 7 → (strL i = offW (rowW i) (rowW i).length ∧ strL i < 100 ∧ (rowW i).length < 14 ∧ ∀ k, k < (rowW i).length → (offW (rowW i) (k + 1) = offW (rowW i) k + ((rowW i).getD k []).length + 1 ∧ offW (rowW i) (k + 1) ≤ strL i ∧ ∀ p, p ≤ ((rowW i).getD k []).length → strC i (offW (rowW i) k + p) = nn (if p < ((rowW i).getD k []).length then ((rowW i).getD k []).getD p 0 else 32))) := by decide +kernel
theorem row_w : ∀ i, i < 7 → ∀ k, k < (rowW i).length → (0 < ((rowW i).getD k []).length ∧ ((rowW i).getD k []).length ≤ 8 ∧ ∀ q, q < ((rowW i).getD k []).length → isLe (((rowW i).getD k []).getD q 0) = true) := by decide +kernel
theorem row_d : ∀ i, i < 7 → ∀ k, k < (rowW i).length → ∀ k2, k2 < (rowW i).length → pkW ((rowW i).getD k []) = pkW ((rowW i).getD k2 []) → k = k2 := by decide +kernel
section
variable {b : Nat → Nat} {bytes tape : Nat → Int32} {n i j s e : Nat}
theorem c_wordIn (hi : i < 7) (hx : TX b bytes tape n) (hse : s ≤ e) (hen : e ≤ n) : (∃ k, k < (rowW i).length ∧ TW b s e ((rowW i).getD k []) ∧ f9_wordIn bytes 1 (nn s) (nn e) i = some (nn k)) ∨ ((∀ k, k < (rowW i).length → ¬ TW b s e ((rowW i).getD k [])) ∧ f9_wordIn bytes 1 (nn s) (nn e) i = some (-1)) := by
  have hn := hx.1
  obtain ⟨o1, o2, o3, o4⟩ := row_ok i hi
  obtain ⟨a, ea, ha⟩ := iter_wfF (B := fun (z : Int32 × Int32 × Int32 × Int32) => f9_wordIn_B23 i (nn s) (nn e) bytes z.1 z.2.1 z.2.2.1 z.2.2.2) (s := ((0 : Int32), nn s, (1 : Int32), (0 : Int32))) (n := strL i)
    (I := fun m z => ∃ k p : Nat, m + (offW (rowW i) k + p) = strL i ∧ z.1 = nn k ∧ z.2.1 = nn (s + p) ∧ z.2.2.2 = nn (offW (rowW i) k + p) ∧ (∀ k', k' < k → ¬ TW b s e ((rowW i).getD k' [])) ∧ ((k = (rowW i).length ∧ p = 0) ∨ (k < (rowW i).length ∧ p ≤ ((rowW i).getD k []).length ∧ ((z.2.2.1 = 1 ∧ s + p ≤ e ∧ ∀ q, q < p → b (s + q) = ((rowW i).getD k []).getD q 0) ∨ (z.2.2.1 = 0 ∧ ¬ (s + p ≤ e ∧ ∀ q, q < p → b (s + q) = ((rowW i).getD k []).getD q 0))))))
    (Po := fun a => (∃ k, k < (rowW i).length ∧ TW b s e ((rowW i).getD k []) ∧ a = .inl (nn k)) ∨ ((∀ k, k < (rowW i).length → ¬ TW b s e ((rowW i).getD k [])) ∧ a = .inr ()))
    ⟨0, 0, by rw [offW_0]; rfl, rfl, rfl, by rw [offW_0]; rfl, fun k hk => absurd hk (Nat.not_lt_zero _), by
      by_cases c : (rowW i).length = 0
      · exact Or.inl ⟨c.symm, rfl⟩
      · exact Or.inr ⟨by omega, Nat.zero_le _, Or.inl ⟨rfl, hse, fun q hq => absurd hq (Nat.not_lt_zero _)⟩⟩⟩ (by omega)
    (by
      rintro m ⟨v2, v3, v4, v5⟩ ⟨k, p, hm, rfl, rfl, rfl, hno, hz⟩
      dsimp only at hz ⊢
      unfold f9_wordIn_B23
      rcases hz with ⟨rfl, rfl⟩ | ⟨hk, hp, hz⟩
      · right
        rw [if_pos (show Int32.ofNat (strL i) ≤ nn (offW (rowW i) (rowW i).length + 0) from nleT (a := strL i) (by omega) (by omega) (by omega))]
        exact ⟨_, rfl, Or.inr ⟨hno, rfl⟩⟩
      · obtain ⟨w1, w2, w3⟩ := o4 k hk
        obtain ⟨l1, l2, l3⟩ := row_w i hi k hk
        have hch := w3 p hp
        have nxt : ¬ TW b s e ((rowW i).getD k []) → p = ((rowW i).getD k []).length → (∃ s' m', f9_wordIn_J99 (nn s) (nn k) (nn (offW (rowW i) k + p)) = some (.inl s') ∧ m' < m ∧ ∃ k p : Nat, m' + (offW (rowW i) k + p) = strL i ∧ s'.1 = nn k ∧ s'.2.1 = nn (s + p) ∧ s'.2.2.2 = nn (offW (rowW i) k + p) ∧ (∀ k', k' < k → ¬ TW b s e ((rowW i).getD k' [])) ∧ ((k = (rowW i).length ∧ p = 0) ∨ (k < (rowW i).length ∧ p ≤ ((rowW i).getD k []).length ∧ ((s'.2.2.1 = 1 ∧ s + p ≤ e ∧ ∀ q, q < p → b (s + q) = ((rowW i).getD k []).getD q 0) ∨ (s'.2.2.1 = 0 ∧ ¬ (s + p ≤ e ∧ ∀ q, q < p → b (s + q) = ((rowW i).getD k []).getD q 0)))))) := by
          intro hT hpe
          unfold f9_wordIn_J99
          rw [lt_df, lt_df, nn_succ, nn_succ]
          refine ⟨_, m - 1, rfl, by omega, k + 1, 0, by omega, rfl, rfl, by rw [w1, hpe], fun k' hk' => ?_, ?_⟩
          · by_cases e2 : k' = k
            · rw [e2]; exact hT
            · exact hno k' (by omega)
          · by_cases c : k + 1 = (rowW i).length
            · exact Or.inl ⟨c, rfl⟩
            · exact Or.inr ⟨by omega, Nat.zero_le _, Or.inl ⟨rfl, hse, fun q hq => absurd hq (Nat.not_lt_zero _)⟩⟩
        have off0 : ¬ (s + (p + 1) ≤ e ∧ ∀ q, q < p + 1 → b (s + q) = ((rowW i).getD k []).getD q 0) → p < ((rowW i).getD k []).length → (∃ s' m', f9_wordIn_J75 (nn k) (nn (s + p)) (nn (offW (rowW i) k + p)) = some (.inl s') ∧ m' < m ∧ ∃ k p : Nat, m' + (offW (rowW i) k + p) = strL i ∧ s'.1 = nn k ∧ s'.2.1 = nn (s + p) ∧ s'.2.2.2 = nn (offW (rowW i) k + p) ∧ (∀ k', k' < k → ¬ TW b s e ((rowW i).getD k' [])) ∧ ((k = (rowW i).length ∧ p = 0) ∨ (k < (rowW i).length ∧ p ≤ ((rowW i).getD k []).length ∧ ((s'.2.2.1 = 1 ∧ s + p ≤ e ∧ ∀ q, q < p → b (s + q) = ((rowW i).getD k []).getD q 0) ∨ (s'.2.2.1 = 0 ∧ ¬ (s + p ≤ e ∧ ∀ q, q < p → b (s + q) = ((rowW i).getD k []).getD q 0)))))) := by
          intro hM hpl
          unfold f9_wordIn_J75 f9_wordIn_J76
          rw [lt_df, lt_df, nn_succ, nn_succ]
          exact ⟨_, m - 1, rfl, by omega, k, p + 1, by omega, rfl, rfl, rfl, hno, Or.inr ⟨hk, by omega, Or.inr ⟨rfl, hM⟩⟩⟩
        rw [if_neg (show ¬ Int32.ofNat (strL i) ≤ nn (offW (rowW i) k + p) from nle (a := strL i) (by omega) (by omega) (by omega)), nn_nat (show offW (rowW i) k + p < 2147483648 by omega), if_neg (ng (by omega) (by omega)), hch, lt_df]
        by_cases c : p < ((rowW i).getD k []).length
        · have hl := isLe_iff.mp (l3 p c)
          rw [if_pos c, if_neg (show ¬ nn (((rowW i).getD k []).getD p 0) = 32 from nne (b := 32) (by omega) (by decide) (by omega))]
          left
          rcases hz with ⟨rfl, z1, z2⟩ | ⟨rfl, z1⟩
          · rw [if_neg (show ¬ (1 : Int32) = 0 by decide)]
            by_cases c2 : e ≤ s + p
            · rw [if_pos (nleT (by omega) (by omega) c2)]
              exact off0 (fun q => by omega) c
            · obtain ⟨q1, q2, q3⟩ := hx.2 (s + p) (by omega)
              rw [if_neg (nle (by omega) (by omega) c2), nn_nat (show s + p < 2147483648 by omega), if_neg (ng (by omega) (by omega)), q2]
              by_cases c3 : b (s + p) = ((rowW i).getD k []).getD p 0
              · rw [if_pos (by rw [c3])]
                unfold f9_wordIn_J76
                rw [lt_df, lt_df, nn_succ, nn_succ]
                refine ⟨_, m - 1, rfl, by omega, k, p + 1, by omega, rfl, rfl, rfl, hno, Or.inr ⟨hk, by omega, Or.inl ⟨rfl, by omega, fun q hq => ?_⟩⟩⟩
                by_cases e2 : q = p
                · rw [e2]; exact c3
                · exact z2 q (by omega)
              · rw [if_neg (nne (by omega) (by omega) c3)]
                exact off0 (fun q => c3 (q.2 p (by omega))) c
          · rw [if_pos rfl]
            exact off0 (fun q => z1 ⟨by omega, fun q2 h2 => q.2 q2 (by omega)⟩) c
        · have hpe : p = ((rowW i).getD k []).length := by omega
          rw [if_neg c, if_pos (show nn 32 = 32 from rfl)]
          rcases hz with ⟨rfl, z1, z2⟩ | ⟨rfl, z1⟩
          · rw [if_neg (show ¬ (1 : Int32) = 0 by decide)]
            by_cases c2 : s + p = e
            · right
              rw [if_pos (by rw [c2])]
              exact ⟨_, rfl, Or.inl ⟨k, hk, ⟨by omega, fun q hq => z2 q (by omega)⟩, rfl⟩⟩
            · left
              rw [if_neg (nne (by omega) (by omega) c2)]
              exact nxt (fun q => c2 (by rw [q.1, hpe])) hpe
          · left
            rw [if_pos rfl]
            refine nxt (fun q => z1 ⟨?_, fun q2 h2 => q.2 q2 (by omega)⟩) hpe
            have := q.1
            omega)
  unfold f9_wordIn
  rw [if_pos rfl, ea]
  rcases ha with ⟨k, h1, h2, rfl⟩ | ⟨h1, rfl⟩
  · rw [bndS0_l]; exact Or.inl ⟨k, h1, h2, rfl⟩
  · rw [bndS0_r]; exact Or.inr ⟨h1, rfl⟩
end
