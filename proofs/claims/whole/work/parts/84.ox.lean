/-! a rule's text: tests, both ways -/
def TCl (bytes : Nat → Int32) (n : Nat) (rc : (Nat → Int32) → (Int32) → (Int32) → (Nat → Int32) → (Int32) → (Int32) → (Int32) → (Int32) → (Int32) → (Int32) → (Int32) → Option (Int32 × (Nat → Int32) × Int32 × Int32 × Int32 × Int32 × Int32 × Int32 × Int32)) (a1 : Int32) : (Nat → Int32) × Int32 × Int32 × Int32 × Int32 × Int32 × Int32 × Int32 × Int32 × Int32 → Option (((Nat → Int32) × Int32 × Int32 × Int32 × Int32 × Int32 × Int32 × Int32 × Int32 × Int32) ⊕ ((Int32 × (Nat → Int32) × Int32 × Int32 × Int32 × Int32 × Int32 × Int32 × Int32) ⊕ ((Nat → Int32) × Int32 × Int32 × Int32 × Int32 × Int32 × Int32 × Int32 × Int32))) := (fun (z : (Nat → Int32) × Int32 × Int32 × Int32 × Int32 × Int32 × Int32 × Int32 × Int32 × Int32) => f6_readTest_B14 bytes (nn n) rc a1 z.1 z.2.1 z.2.2.1 z.2.2.2.1 z.2.2.2.2.1 z.2.2.2.2.2.1 z.2.2.2.2.2.2.1 z.2.2.2.2.2.2.2.1 z.2.2.2.2.2.2.2.2.1 z.2.2.2.2.2.2.2.2.2)
def FactP (b : Nat → Nat) (bytes tape : Nat → Int32) (n k : Nat) (sg0 : Nat → Int32) (g : Nat) : Prop := ∀ (i s e u dp : Nat) (kind sign num : Int32) (code sgn len op : Nat → Int32) (size : Int32) (its : List (Nat × Nat)) (nots st1 : List Nat), 11 ≤ g + dp → dp ≤ 10 → dcnt (nots ++ st1) = dp → (∀ o, o ∈ nots → o = 11) → (st1 = [] ∨ ∃ v r, st1 = v :: r ∧ v ≠ 11 ∧ v < 1000) → (∀ v, v ∈ st1 → v < 1000) → its.length + (nots ++ st1).length ≤ i → u ≤ 60 → Rn isSp b n i s → Tk b n s kind sign e → CC code size its → CM k sg0 sgn len its → SKr op (nots ++ st1) →
  (∃ (s1 e1 i1 u1 : Nat) (k1 g1 num1 size1 : Int32) (code1 sgn1 len1 op1 : Nat → Int32) (A : List (Nat × Nat)), i < i1 ∧ u1 ≤ 60 ∧ u + cntP A ≤ u1 ∧ its.length + A.length + (nots ++ st1).length ≤ i1 ∧ f6_readFact g code size (nn u) bytes (nn n) kind sign 0 (nn s) (nn e) (nn dp) = some (1, code1, size1, nn u1, k1, g1, 0, nn s1, nn e1) ∧ Rn isSp b n i1 s1 ∧ Tk b n s1 k1 g1 e1 ∧ CC code1 size1 (its ++ A) ∧ CM k sg0 sgn1 len1 (its ++ A ++ itm nots) ∧ SKr op1 st1 ∧ SgT A ∧ ∀ out, RC tape n k i1 st1 u1 sgn1 len1 op1 num1 out → RF tape n k i (nots ++ st1) u sgn len op num out) ∨
  (∃ (w : Nat) (code1 : Nat → Int32) (size1 u1 k1 g1 st sp : Int32), 0 < w ∧ (w < 5000 ∧ 0 ≤ size1) ∧ f6_readFact g code size (nn u) bytes (nn n) kind sign 0 (nn s) (nn e) (nn dp) = some (0, code1, size1, u1, k1, g1, nn w, st, sp) ∧ ∃ out, Fl k sg0 w out ∧ RF tape n k i (nots ++ st1) u sgn len op num out)
/-- what stands of a test in the class, and in the reference with its signs that wait -/
def TS (pre : List (Nat × Nat)) (orW : Int32) (ic : List (Nat × Nat)) (ops : List Nat) (itr : List (Nat × Nat)) : Prop :=
  (orW = 0 ∧ (∃ X, ic = pre ++ X ∧ SgT X) ∧ ((ops = [] ∧ itr = ic) ∨ (ops = [12] ∧ itr ++ [(2, 12)] = ic))) ∨ (orW = 1 ∧ (∃ L M, ic = pre ++ L ++ M ∧ SgT L ∧ SgT M) ∧ ((ops = [13] ∧ itr = ic) ∨ (ops = [12, 13] ∧ itr ++ [(2, 12)] = ic)))
theorem TS.ops {pre ic itr : List (Nat × Nat)} {ops : List Nat} {orW : Int32} (h : TS pre orW ic ops itr) : ∀ o, o ∈ ops → o = 12 ∨ o = 13 := by
  intro o ho
  rcases h with ⟨-, -, h | h⟩ | ⟨-, -, h | h⟩ <;> rw [h.1] at ho <;> simp at ho <;> omega
theorem TS.len {pre ic itr : List (Nat × Nat)} {ops : List Nat} {orW : Int32} (h : TS pre orW ic ops itr) : ic.length + (if orW = 0 then 0 else 1) = itr.length + ops.length := by
  rcases h with ⟨rfl, -, ⟨rfl, rfl⟩ | ⟨rfl, rfl⟩⟩ | ⟨rfl, -, ⟨rfl, rfl⟩ | ⟨rfl, rfl⟩⟩
  · rfl
  · rw [List.length_append]; rfl
  · rfl
  · rw [List.length_append]; rfl
theorem TS.end0 {pre ic itr : List (Nat × Nat)} {ops : List Nat} (h : TS pre 0 ic ops itr) : itr ++ itm ops = ic ∧ ∃ X, ic = pre ++ X ∧ SgT X := by
  rcases h with ⟨-, hX, ⟨rfl, rfl⟩ | ⟨rfl, h2⟩⟩ | ⟨h0, -⟩
  · exact ⟨List.append_nil _, hX⟩
  · exact ⟨h2, hX⟩
  · exact absurd h0 (by decide)
theorem TS.end1 {pre ic itr : List (Nat × Nat)} {ops : List Nat} (h : TS pre 1 ic ops itr) : itr ++ itm ops = ic ++ [(2, 13)] ∧ ∃ X, ic ++ [(2, 13)] = pre ++ X ∧ SgT X := by
  rcases h with ⟨h0, -⟩ | ⟨-, ⟨L, M, h1, h2, h3⟩, h4⟩
  · exact absurd h0 (by decide)
  · refine ⟨?_, L ++ M ++ [(2, 13)], by rw [h1]; simp only [List.append_assoc], SgT.or h2 h3⟩
    rcases h4 with ⟨rfl, rfl⟩ | ⟨rfl, h5⟩
    · rfl
    · rw [← h5, List.append_assoc]; rfl
section
variable {b : Nat → Nat} {bytes tape : Nat → Int32} {n k : Nat} {sg0 : Nat → Int32} {g : Nat}
def HD (st : List Nat) : Prop := st = [] ∨ ∃ r, st = 91 :: r
theorem c_tests {code : Nat → Int32} {size v kind sign st sp orW a1 : Int32} {q isAnd : Nat} {code2 : Nat → Int32} {size2 : Int32} {rc : (Nat → Int32) → (Int32) → (Int32) → (Nat → Int32) → (Int32) → (Int32) → (Int32) → (Int32) → (Int32) → (Int32) → (Int32) → Option (Int32 × (Nat → Int32) × Int32 × Int32 × Int32 × Int32 × Int32 × Int32 × Int32)} (hq : q < 400) (hA : f9_isAtWord bytes kind st sp 3 = some (nn isAnd)) (hO : isAnd = 1 ∨ (isAnd = 0 ∧ f9_isAtWord bytes kind st sp 4 = some 1)) (how : orW = 0 ∨ orW = 1) (hem : (isAnd = 0 ∧ orW = 1 → f6_emit code size 2 124 = some (code2, size2)) ∧ (¬ (isAnd = 0 ∧ orW = 1) → code2 = code ∧ size2 = size)) : TCl bytes n rc a1 (code, size, v, kind, sign, (0 : Int32), st, sp, orW, nn q) = f6_readTest_J82 bytes (nn n) rc a1 code2 size2 v kind sign 0 st sp (nn q) (nn isAnd) (if isAnd = 1 then orW else 1) := by
  unfold TCl f6_readTest_B14
  dsimp only
  rw [if_neg (show ¬ (400 : Int32) ≤ nn q from nle (a := 400) (by decide) (by omega) (by omega)), hA, bnd1_s]
  unfold f6_readTest_J52 f6_readTest_J68 f6_readTest_J77
  rcases hO with rfl | ⟨rfl, hO⟩
  · obtain ⟨rfl, rfl⟩ := hem.2 (fun h => by omega)
    rw [if_neg (show ¬ nn 1 = 0 by decide), if_neg (show ¬ nn 1 = 0 by decide), if_pos rfl]
    rcases how with rfl | rfl
    · rw [if_pos rfl, if_neg (show ¬ nn 1 = 0 by decide)]
    · rw [if_neg (show ¬ (1 : Int32) = 0 by decide)]
  · rw [if_pos (show nn 0 = 0 from rfl), hO, bnd1_s, if_neg (show ¬ (1 : Int32) = 0 by decide), if_pos (show nn 0 = 0 from rfl), if_neg (show ¬ 0 = 1 by decide)]
    rcases how with rfl | rfl
    · obtain ⟨rfl, rfl⟩ := hem.2 (fun h => absurd h.2 (by decide))
      rw [if_pos rfl, if_pos rfl, if_pos (show nn 0 = 0 from rfl)]
    · rw [if_neg (show ¬ (1 : Int32) = 0 by decide), hem.1 ⟨rfl, rfl⟩, bnd2_s, if_neg (show ¬ (1 : Int32) = 0 by decide)]
theorem c_testEnd {code : Nat → Int32} {size v kind sign st sp orW a1 : Int32} {q : Nat} {rc : (Nat → Int32) → (Int32) → (Int32) → (Nat → Int32) → (Int32) → (Int32) → (Int32) → (Int32) → (Int32) → (Int32) → (Int32) → Option (Int32 × (Nat → Int32) × Int32 × Int32 × Int32 × Int32 × Int32 × Int32 × Int32)} (hA : f9_isAtWord bytes kind st sp 3 = some 0) (hO : f9_isAtWord bytes kind st sp 4 = some 0) : TCl bytes n rc a1 (code, size, v, kind, sign, (0 : Int32), st, sp, orW, nn q) = some (.inr (.inr (code, size, v, kind, sign, 0, st, sp, orW))) := by
  unfold TCl f6_readTest_B14
  dsimp only
  by_cases c : (400 : Int32) ≤ nn q
  · rw [if_pos c]
  · rw [if_neg c, hA, bnd1_s, if_pos rfl, hO, bnd1_s, if_pos rfl]
theorem r_testL (hk : k < 6) (hx : TX b bytes tape n) (hF : FactP b bytes tape n k sg0 g) {dp : Nat} (hg : 11 ≤ g + dp) (hdp : dp ≤ 10) {st : List Nat} (hst : HD st) (hv9 : ∀ v, v ∈ st → v < 1000) (hdc : dcnt st = dp) : ∀ (d i s e u q : Nat) (kind sign num orW : Int32) (code sgn len op : Nat → Int32) (size : Int32) (pre ic itr : List (Nat × Nat)) (ops : List Nat), n - i ≤ d → itr.length + (ops ++ st).length ≤ i → q ≤ i → u ≤ 60 → Rn isSp b n i s → Tk b n s kind sign e → CC code size ic → CM k sg0 sgn len itr → SKr op (ops ++ st) → TS pre orW ic ops itr →
    (∃ (c q1 u1 s1 e1 i1 : Nat) (k1 g1 num1 size1 orW1 : Int32) (code1 sgn1 len1 op1 : Nat → Int32) (ic1 itr1 : List (Nat × Nat)) (ops1 : List Nat), c + i ≤ i1 ∧ u1 ≤ 60 ∧ u + cntP ic1 ≤ u1 + cntP ic ∧ itr1.length + (ops1 ++ st).length ≤ i1 ∧ (∀ f, iter (TCl bytes n (f6_readFact g) (nn dp)) (f + c) (code, size, nn u, kind, sign, (0 : Int32), nn s, nn e, orW, nn q) = iter (TCl bytes n (f6_readFact g) (nn dp)) f (code1, size1, nn u1, k1, g1, (0 : Int32), nn s1, nn e1, orW1, nn q1)) ∧ (f9_isAtWord bytes k1 (nn s1) (nn e1) 3 = some 0 ∧ f9_isAtWord bytes k1 (nn s1) (nn e1) 4 = some 0 ∧ (∀ j, Rn isSp b n j s1 → f12_isWord tape (nn n) (nn j) (lN (pkW ((rowW 3).getD 0 []))) = some (0, nn s1)) ∧ ∀ j, Rn isSp b n j s1 → f12_isWord tape (nn n) (nn j) (lN (pkW ((rowW 4).getD 0 []))) = some (0, nn s1)) ∧ Rn isSp b n i1 s1 ∧ Tk b n s1 k1 g1 e1 ∧ CC code1 size1 ic1 ∧ CM k sg0 sgn1 len1 itr1 ∧ SKr op1 (ops1 ++ st) ∧ TS pre orW1 ic1 ops1 itr1 ∧ ∀ out, RC tape n k i1 (ops1 ++ st) u1 sgn1 len1 op1 num1 out → RC tape n k i (ops ++ st) u sgn len op num out) ∨
    (∃ (c w : Nat) (code1 : Nat → Int32) (size1 u1 k1 g1 st' sp : Int32), 0 < w ∧ (w < 5000 ∧ 0 ≤ size1) ∧ c + i ≤ n ∧ (∀ f, iter (TCl bytes n (f6_readFact g) (nn dp)) (f + c + 1) (code, size, nn u, kind, sign, (0 : Int32), nn s, nn e, orW, nn q) = some (.inl (0, code1, size1, u1, k1, g1, nn w, st', sp))) ∧ ∃ out, Fl k sg0 w out ∧ RC tape n k i (ops ++ st) u sgn len op num out) := by
  have hn := hx.1
  have hstr : ∀ o, (o = 12 ∨ o = 13) → (st = [] ∨ ∃ v r, st = v :: r ∧ stg v < stg o ∧ v < 1000) := by
    intro o ho
    rcases hst with h | ⟨r, h⟩
    · exact Or.inl h
    · exact Or.inr ⟨91, r, h, by rcases ho with rfl | rfl <;> decide, by decide⟩
  intro d
  induction d with
  | zero =>
    intro i s e u q kind sign num orW code sgn len op size pre ic itr ops hd hl hq hu h ht hC hM hS hT
    have his := h.1
    have hsn := ht.1
    left
    rcases r_at (i := 3) (by decide) rfl hx ht with ⟨-, h2, h3, -⟩ | ⟨w1, w2⟩
    · have := h3.2.1; omega
    · rcases r_at (i := 4) (by decide) rfl hx ht with ⟨-, h2, h3, -⟩ | ⟨w3, w4⟩
      · have := h3.2.1; omega
      · exact ⟨0, q, u, s, e, i, kind, sign, num, size, orW, code, sgn, len, op, ic, itr, ops, by omega, hu, Nat.le_refl _, hl, fun f => rfl, ⟨w1, w3, w2, w4⟩, h, ht, hC, hM, hS, hT, fun out hr => hr⟩
  | succ d ih =>
    intro i s e u q kind sign num orW code sgn len op size pre ic itr ops hd hl hq hu h ht hC hM hS hT
    have his := h.1
    have how : orW = 0 ∨ orW = 1 := by rcases hT with ⟨h, -⟩ | ⟨h, -⟩ <;> simp [h]
    have hTl := hT.len
    rw [List.length_append] at hl
    rcases r_at (i := 3) (by decide) rfl hx ht with ⟨rfl, w1, w2, w3, w4⟩ | ⟨w1, w2⟩
    · -- and
      have hen := w2.2.1
      obtain ⟨pops, rest, hpr, hpo, hrest, hic, hdr, hrv, hrl⟩ : ∃ (pops rest : List Nat), ops ++ st = pops ++ rest ∧ (∀ v, v ∈ pops → stg 12 ≤ stg v) ∧ (rest = [] ∨ ∃ v r, rest = v :: r ∧ stg v < stg 12 ∧ v < 1000) ∧ itr ++ itm pops = ic ∧ dcnt (12 :: rest) = dp ∧ (∀ v, v ∈ (12 :: rest) → v < 1000) ∧ rest = (if orW = 0 then st else 13 :: st) := by
        have h12 : dcnt (12 :: st) = dp := by show (if (12 : Nat) = 11 ∨ (12 : Nat) = 91 then 1 else 0) + dcnt st = dp; rw [if_neg (by omega)]; omega
        have h13 : dcnt (12 :: 13 :: st) = dp := by show (if (12 : Nat) = 11 ∨ (12 : Nat) = 91 then 1 else 0) + ((if (13 : Nat) = 11 ∨ (13 : Nat) = 91 then 1 else 0) + dcnt st) = dp; rw [if_neg (by omega), if_neg (by omega)]; omega
        have v12 : ∀ v, v ∈ (12 :: st) → v < 1000 := fun v hv => by rcases List.mem_cons.mp hv with h | h; rw [h]; decide; exact hv9 v h
        have v13 : ∀ v, v ∈ (12 :: 13 :: st) → v < 1000 := fun v hv => by rcases List.mem_cons.mp hv with h | h; rw [h]; decide; rcases List.mem_cons.mp h with h | h; rw [h]; decide; exact hv9 v h
        rcases hT with ⟨rfl, -, ⟨rfl, rfl⟩ | ⟨rfl, h2⟩⟩ | ⟨rfl, -, ⟨rfl, rfl⟩ | ⟨rfl, h2⟩⟩
        · exact ⟨[], st, rfl, fun v hv => absurd hv List.not_mem_nil, hstr 12 (Or.inl rfl), List.append_nil _, h12, v12, rfl⟩
        · exact ⟨[12], st, rfl, fun v hv => by rw [List.mem_singleton.mp hv]; exact Nat.le_refl _, hstr 12 (Or.inl rfl), h2, h12, v12, rfl⟩
        · exact ⟨[], 13 :: st, rfl, fun v hv => absurd hv List.not_mem_nil, Or.inr ⟨13, st, rfl, by decide, by decide⟩, List.append_nil _, h13, v13, rfl⟩
        · exact ⟨[12], 13 :: st, rfl, fun v hv => by rw [List.mem_singleton.mp hv]; exact Nat.le_refl _, Or.inr ⟨13, st, rfl, by decide, by decide⟩, h2, h13, v13, rfl⟩
      have hlr : ic.length + rest.length ≤ i := by
        have e1 : (ops ++ st).length = (pops ++ rest).length := by rw [hpr]
        rw [List.length_append, List.length_append] at e1
        have e2 : ic.length = itr.length + pops.length := by rw [← hic, List.length_append]; unfold itm; rw [List.length_map]
        omega
      rw [hpr] at hS
      obtain ⟨sgn1, len1, c1, c2, c3⟩ := C_word (u := u) (num := num) (o := 12) hk hx h w2 w1 (Or.inl ⟨rfl, w4⟩) hpo hrest hM hS (by
        have e1 : (ops ++ st).length = (pops ++ rest).length := by rw [hpr]
        rw [← e1, List.length_append]; omega)
      rw [hic] at c1
      rw [← hpr] at c3
      obtain ⟨s2, k2, g2, e2, t1, t2, t3⟩ := next_tk (kind := 1) (sign := sign) (i := e) (nn s) hx hen
      have hq4 : q < 400 := by omega
      have hTC := fun (code2 : Nat → Int32) (size2 : Int32) => c_tests (n := n) (code := code) (size := size) (v := nn u) (sign := sign) (a1 := nn dp) (q := q) (isAnd := 1) (code2 := code) (size2 := size) (rc := f6_readFact g) hq4 w3 (Or.inl rfl) how ⟨fun h => absurd h.1 (by decide), fun _ => ⟨rfl, rfl⟩⟩
      have hlen12 : ([] ++ (12 :: rest)).length = rest.length + 1 := rfl
      rcases hF e s2 e2 u dp k2 g2 num code sgn1 len1 (upd op rest.length (nn 12)) size ic [] (12 :: rest) hg hdp hdr (fun o ho => absurd ho List.not_mem_nil) (Or.inr ⟨12, rest, rfl, by decide, by decide⟩) hrv (by rw [hlen12]; omega) hu t1 t3 hC c1 c2 with ⟨s3, e3, i3, u3, k3, g3, num3, size3, code3, sgn3, len3, op3, A, x1, x2, x3, x4, x5, x6, x7, x8, x9, x10, x11, x12⟩ | ⟨w, code3, size3, u3, k3, g3, st3, sp3, x1, x2, x3, out, x4, x5⟩
      · rw [hlen12] at x4
        have hi3n : i3 ≤ n := by have := x6.1; have := x7.1; omega
        obtain ⟨code4, size4, y1, y2⟩ := c_op (o := 12) x8 (by rw [List.length_append]; omega)
        have hstep : TCl bytes n (f6_readFact g) (nn dp) (code, size, nn u, (1 : Int32), sign, (0 : Int32), nn s, nn e, orW, nn q) = some (.inl (code4, size4, nn u3, k3, g3, 0, nn s3, nn e3, orW, nn (q + 1))) := by
          rw [hTC code size]
          unfold f6_readTest_J82
          rw [t2, bnd4_s, x5, bnd9_s, if_neg (show ¬ (1 : Int32) = 0 by decide), if_neg (show ¬ nn 1 = 0 by decide), show f6_emit code3 size3 2 38 = _ from y1, bnd2_s, nn_succ, lt_df, if_pos rfl]
        have hx9 : CM k sg0 sgn3 len3 (ic ++ A) := by
          have : ic ++ A ++ itm [] = ic ++ A := List.append_nil _
          rw [← this]; exact x9
        have hTS : TS pre orW (ic ++ A ++ [(2, 12)]) (12 :: (if orW = 0 then [] else [13])) (ic ++ A) := by
          rcases hT with ⟨rfl, ⟨X, h1, h2⟩, -⟩ | ⟨rfl, ⟨L, M, h1, h2, h3⟩, -⟩
          · exact Or.inl ⟨rfl, ⟨X ++ A ++ [(2, 12)], by rw [h1]; simp only [List.append_assoc], SgT.and h2 x11⟩, Or.inr ⟨rfl, rfl⟩⟩
          · exact Or.inr ⟨rfl, ⟨L, M ++ A ++ [(2, 12)], by rw [h1]; simp only [List.append_assoc], h2, SgT.and h3 x11⟩, Or.inr ⟨rfl, rfl⟩⟩
        have hops : (12 :: (if orW = 0 then [] else [13])) ++ st = 12 :: rest := by
          rw [hrl]
          rcases how with rfl | rfl
          · rfl
          · rfl
        rcases ih i3 s3 e3 u3 (q + 1) k3 g3 num3 orW code4 sgn3 len3 op3 size4 pre _ _ _ (by omega) (by rw [hops, List.length_append]; show ic.length + A.length + (rest.length + 1) ≤ i3; omega) (by omega) x2 x6 x7 y2 hx9 (by rw [hops]; exact x10) hTS with ⟨c, q1, u1, s1, e1, i1, k1, g1, num1, size1, orW1, code1, sgn4, len4, op1, ic1, itr1, ops1, z1, z2, z3, z4, z5, z6, z7, z8, z9, z10, z11, z12, z13⟩ | ⟨c, w, code1, size1, u1, k1, g1, st1, sp1, z1, z2, z3, z4, out, z5, z6⟩
        · left
          refine ⟨c + 1, q1, u1, s1, e1, i1, k1, g1, num1, size1, orW1, code1, sgn4, len4, op1, ic1, itr1, ops1, by omega, z2, ?_, z4, fun f => ?_, z6, z7, z8, z9, z10, z11, z12, fun out hr => ?_⟩
          · rw [cntP_app, cntP_app] at z3
            have : cntP [(2, 12)] = 0 := rfl
            omega
          · show iter _ (f + c + 1) _ = _
            rw [iter_l hstep (f + c)]
            exact z5 f
          · have h1 := z13 out hr
            rw [hops] at h1
            exact c3 out (x12 out h1)
        · right
          refine ⟨c + 1, w, code1, size1, u1, k1, g1, st1, sp1, z1, z2, by omega, fun f => ?_, out, z5, ?_⟩
          · rw [show f + (c + 1) + 1 = f + c + 1 + 1 by omega, iter_l hstep (f + c + 1)]
            exact z4 f
          · rw [hops] at z6
            exact c3 out (x12 out z6)
      · right
        refine ⟨0, w, code3, size3, u3, k3, g3, st3, sp3, x1, x2, by have := w2.2.1; omega, fun f => ?_, out, x4, c3 out x5⟩
        refine iter_r ?_ f
        rw [hTC code size]
        unfold f6_readTest_J82
        rw [t2, bnd4_s, x3, bnd9_s, if_pos rfl]
    · rcases r_at (i := 4) (by decide) rfl hx ht with ⟨rfl, w3, w4, w5, w6⟩ | ⟨w3, w4⟩
      · -- or
        have hen := w4.2.1
        have hopo := hT.ops
        obtain ⟨sgn1, len1, c1, c2, c3⟩ := C_word (u := u) (num := num) (o := 13) hk hx h w4 w3 (Or.inr ⟨rfl, w2, w6⟩) (fun v hv => by rcases hopo v hv with h | h <;> rw [h] <;> decide) (hstr 13 (Or.inr rfl)) hM hS (by rw [List.length_append]; omega)
        obtain ⟨ic2, code2, size2, hic2, hC2, hem, L, hL1, hL2⟩ : ∃ (ic2 : List (Nat × Nat)) (code2 : Nat → Int32) (size2 : Int32), itr ++ itm ops = ic2 ∧ CC code2 size2 ic2 ∧ (((0 : Nat) = 0 ∧ orW = 1 → f6_emit code size 2 124 = some (code2, size2)) ∧ (¬ ((0 : Nat) = 0 ∧ orW = 1) → code2 = code ∧ size2 = size)) ∧ ∃ L, ic2 = pre ++ L ∧ SgT L := by
          rcases how with rfl | rfl
          · obtain ⟨q1, q2⟩ := hT.end0
            exact ⟨ic, code, size, q1, hC, ⟨fun h => absurd h.2 (by decide), fun _ => ⟨rfl, rfl⟩⟩, q2⟩
          · obtain ⟨q1, q2⟩ := hT.end1
            rw [if_neg (show ¬ (1 : Int32) = 0 by decide)] at hTl
            obtain ⟨code2, size2, y1, y2⟩ := c_op (o := 13) hC (by omega)
            exact ⟨ic ++ [(2, 13)], code2, size2, q1, y2, ⟨fun _ => y1, fun h => absurd ⟨rfl, rfl⟩ h⟩, q2⟩
        rw [hic2] at c1
        have hl2 : ic2.length = itr.length + ops.length := by rw [← hic2, List.length_append]; unfold itm; rw [List.length_map]
        obtain ⟨s2, k2, g2, e2, t1, t2, t3⟩ := next_tk (kind := 1) (sign := sign) (i := e) (nn s) hx hen
        have hq4 : q < 400 := by omega
        have hTC := c_tests (n := n) (code := code) (size := size) (v := nn u) (sign := sign) (a1 := nn dp) (q := q) (isAnd := 0) (code2 := code2) (size2 := size2) (rc := f6_readFact g) hq4 w1 (Or.inr ⟨rfl, w5⟩) how hem
        have hlen13 : ([] ++ (13 :: st)).length = st.length + 1 := rfl
        have h13 : dcnt ([] ++ (13 :: st)) = dp := by show (if (13 : Nat) = 11 ∨ (13 : Nat) = 91 then 1 else 0) + dcnt st = dp; rw [if_neg (by omega)]; omega
        have v13 : ∀ v, v ∈ (13 :: st) → v < 1000 := fun v hv => by rcases List.mem_cons.mp hv with h | h; rw [h]; decide; exact hv9 v h
        rcases hF e s2 e2 u dp k2 g2 num code2 sgn1 len1 (upd op st.length (nn 13)) size2 ic2 [] (13 :: st) hg hdp h13 (fun o ho => absurd ho List.not_mem_nil) (Or.inr ⟨13, st, rfl, by decide, by decide⟩) v13 (by rw [hlen13]; omega) hu t1 t3 hC2 c1 c2 with ⟨s3, e3, i3, u3, k3, g3, num3, size3, code3, sgn3, len3, op3, A, x1, x2, x3, x4, x5, x6, x7, x8, x9, x10, x11, x12⟩ | ⟨w, code3, size3, u3, k3, g3, st3, sp3, x1, x2, x3, out, x4, x5⟩
        · rw [hlen13] at x4
          have hi3n : i3 ≤ n := by have := x6.1; have := x7.1; omega
          have hstep : TCl bytes n (f6_readFact g) (nn dp) (code, size, nn u, (1 : Int32), sign, (0 : Int32), nn s, nn e, orW, nn q) = some (.inl (code3, size3, nn u3, k3, g3, 0, nn s3, nn e3, 1, nn (q + 1))) := by
            rw [hTC]
            unfold f6_readTest_J82
            rw [t2, bnd4_s, x5, bnd9_s, if_neg (show ¬ (1 : Int32) = 0 by decide), if_pos (show nn 0 = 0 from rfl), nn_succ, lt_df, if_neg (show ¬ 0 = 1 by decide)]
          have hx9 : CM k sg0 sgn3 len3 (ic2 ++ A) := by
            have : ic2 ++ A ++ itm [] = ic2 ++ A := List.append_nil _
            rw [← this]; exact x9
          have hTS : TS pre 1 (ic2 ++ A) [13] (ic2 ++ A) := Or.inr ⟨rfl, ⟨L, A, by rw [hL1], hL2, x11⟩, Or.inl ⟨rfl, rfl⟩⟩
          have hcn : cntP ic2 = cntP ic := by
            rcases how with rfl | rfl
            · obtain ⟨q1, q2⟩ := hT.end0
              rw [← hic2, q1]
            · obtain ⟨q1, q2⟩ := hT.end1
              rw [← hic2, q1, cntP_app]; rfl
          rcases ih i3 s3 e3 u3 (q + 1) k3 g3 num3 1 code3 sgn3 len3 op3 size3 pre _ _ [13] (by omega) (by rw [List.length_append]; show ic2.length + A.length + (st.length + 1) ≤ i3; omega) (by omega) x2 x6 x7 x8 hx9 x10 hTS with ⟨c, q1, u1, s1, e1, i1, k1, g1, num1, size1, orW1, code1, sgn4, len4, op1, ic1, itr1, ops1, z1, z2, z3, z4, z5, z6, z7, z8, z9, z10, z11, z12, z13⟩ | ⟨c, w, code1, size1, u1, k1, g1, st1, sp1, z1, z2, z3, z4, out, z5, z6⟩
          · left
            refine ⟨c + 1, q1, u1, s1, e1, i1, k1, g1, num1, size1, orW1, code1, sgn4, len4, op1, ic1, itr1, ops1, by omega, z2, ?_, z4, fun f => ?_, z6, z7, z8, z9, z10, z11, z12, fun out hr => c3 out (x12 out (z13 out hr))⟩
            · rw [cntP_app] at z3
              omega
            · show iter _ (f + c + 1) _ = _
              rw [iter_l hstep (f + c)]
              exact z5 f
          · right
            refine ⟨c + 1, w, code1, size1, u1, k1, g1, st1, sp1, z1, z2, by omega, fun f => ?_, out, z5, c3 out (x12 out z6)⟩
            rw [show f + (c + 1) + 1 = f + c + 1 + 1 by omega, iter_l hstep (f + c + 1)]
            exact z4 f
        · right
          refine ⟨0, w, code3, size3, u3, k3, g3, st3, sp3, x1, x2, by have := w4.2.1; omega, fun f => ?_, out, x4, c3 out x5⟩
          refine iter_r ?_ f
          rw [hTC]
          unfold f6_readTest_J82
          rw [t2, bnd4_s, x3, bnd9_s, if_pos rfl]
      · left
        exact ⟨0, q, u, s, e, i, kind, sign, num, size, orW, code, sgn, len, op, ic, itr, ops, by omega, hu, Nat.le_refl _, by rw [List.length_append]; omega, fun f => rfl, ⟨w1, w3, w2, w4⟩, h, ht, hC, hM, hS, hT, fun out hr => hr⟩
end
