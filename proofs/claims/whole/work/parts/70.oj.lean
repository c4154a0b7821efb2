/-! texts: runs of one kind of byte, what stands at a place -/
def isSp (x : Nat) : Bool := decide (x = 32)
def isLe (x : Nat) : Bool := decide (97 ≤ x) && decide (x ≤ 122)
def isDi (x : Nat) : Bool := decide (48 ≤ x) && decide (x ≤ 57)
def Rn (c : Nat → Bool) (b : Nat → Nat) (n i j : Nat) : Prop := i ≤ j ∧ j ≤ n ∧ (∀ k, i ≤ k → k < j → c (b k) = true) ∧ (j < n → c (b j) = false)
theorem Rn_ex (c : Nat → Bool) (b : Nat → Nat) (n : Nat) : ∀ d i, i + d = n → ∃ j, Rn c b n i j
  | 0, i, h => ⟨i, Nat.le_refl _, by omega, fun k h1 h2 => by omega, fun h2 => by omega⟩
  | d + 1, i, h => by
    by_cases e : c (b i) = true
    · obtain ⟨j, h1, h2, h3, h4⟩ := Rn_ex c b n d (i + 1) (by omega)
      refine ⟨j, by omega, h2, fun k k1 k2 => ?_, h4⟩
      by_cases e2 : k = i
      · rw [e2]; exact e
      · exact h3 k (by omega) k2
    · exact ⟨i, Nat.le_refl _, by omega, fun k h1 h2 => by omega, fun _ => Bool.eq_false_iff.mpr e⟩
theorem Rn.one {c : Nat → Bool} {b : Nat → Nat} {n i j k : Nat} (h : Rn c b n i j) (g : Rn c b n i k) : j = k := by
  obtain ⟨h1, h2, h3, h4⟩ := h
  obtain ⟨g1, g2, g3, g4⟩ := g
  rcases Nat.lt_trichotomy j k with e | e | e
  · have := g3 j h1 e
    rw [h4 (by omega)] at this; cases this
  · exact e
  · have := h3 k g1 e
    rw [g4 (by omega)] at this; cases this
theorem Rn.stay {c : Nat → Bool} {b : Nat → Nat} {n i : Nat} (h : i ≤ n) (g : i < n → c (b i) = false) : Rn c b n i i := ⟨Nat.le_refl _, h, fun k h1 h2 => by omega, g⟩
theorem Rn.mid {c : Nat → Bool} {b : Nat → Nat} {n i j : Nat} (h : Rn c b n i j) : Rn c b n j j := Rn.stay h.2.1 h.2.2.2
theorem Rn.up {c : Nat → Bool} {b : Nat → Nat} {n i j : Nat} (h : Rn c b n i j) (hi : i < n) (g : c (b i) = true) : i < j := by
  rcases Nat.lt_or_eq_of_le h.1 with e | e
  · exact e
  · have := h.2.2.2 (by omega)
    rw [← e, g] at this; cases this
theorem run_loop {c : Nat → Bool} {b : Nat → Nat} {n i j : Nat} {B : Int32 → Option (Int32 ⊕ Int32)} (hn : n ≤ 400) (h1 : ∀ k, k < n → c (b k) = true → B (nn k) = some (.inl (nn (k + 1)))) (h2 : ∀ k, k ≤ n → (k < n → c (b k) = false) → B (nn k) = some (.inr (nn k))) (h : Rn c b n i j) : iter B FUEL (nn i) = some (nn j) := by
  have hij := h.1
  have hjn := h.2.1
  refine iter_for (st := fun k => nn (i + k)) (n := j - i) (out := nn j) rfl (by omega) (fun k hk => ?_) ?_
  · exact h1 (i + k) (by omega) (h.2.2.1 (i + k) (by omega) (by omega))
  · rw [show i + (j - i) = j by omega]
    exact h2 j hjn h.2.2.2
/-- the text, in the class and in the reference -/
def TX (b : Nat → Nat) (bytes tape : Nat → Int32) (n : Nat) : Prop := n ≤ 400 ∧ ∀ i, i < n → b i < 256 ∧ bytes i = nn (b i) ∧ tape i = sb (b i)
theorem TPr.tx {bytes tape : Nat → Int32} {len taped : Int32} {n : Nat} (h : TPr bytes len tape taped n) : TX (fun i => (bytes i).toNatClampNeg) bytes tape n := by
  refine ⟨h.1, fun i hi => ?_⟩
  obtain ⟨b, h1, h2, h3⟩ := h.2.2.2 i hi
  dsimp only
  rw [h2, nn_nat (by omega)]
  exact ⟨h1, rfl, h3⟩
theorem sb_dig : ∀ b, b < 256 → (if sb b < 48 then (0 : Int32) else if 57 < sb b then 0 else 1) = (if isDi b = true then 1 else 0) := by decide +kernel
theorem sb_let : ∀ b, b < 256 → (if sb b < 97 then (0 : Int32) else if 122 < sb b then 0 else 1) = (if isLe b = true then 1 else 0) := by decide +kernel
section
variable {b : Nat → Nat} {bytes tape : Nat → Int32} {n i j s e : Nat}
theorem m_see (hx : TX b bytes tape n) (h : Rn isSp b n i s) : f12_see tape (nn n) (nn i) = some (if s < n then nn (b s) else -1, nn s) := by
  have hn := hx.1
  have hs := h.2.1
  unfold f12_see
  rw [run_loop (B := fun (z : Int32) => f12_see_B0 (nn n) tape z) hn ?h1 ?h2 h]
  · rw [bnd1_s]
    by_cases c : s < n
    · obtain ⟨h1, h2, h3⟩ := hx.2 s c
      rw [if_neg (nle (by omega) (by omega) (by omega)), nn_nat (show s < 2147483648 by omega), if_neg (ng (by omega) (by omega)), h3, sb_and _ h1, lt_df, if_pos c]
    · rw [if_pos (nleT (by omega) (by omega) (by omega)), if_neg c]
  case h1 =>
    intro k hk hc
    obtain ⟨h1, h2, h3⟩ := hx.2 k hk
    unfold f12_see_B0
    rw [if_neg (nle (by omega) (by omega) (by omega)), nn_nat (show k < 2147483648 by omega), if_neg (ng (by omega) (by omega)), h3, if_pos ((sb_32 _ h1).mpr (of_decide_eq_true hc)), lt_df, nn_succ]
  case h2 =>
    intro k hk hc
    unfold f12_see_B0
    by_cases c : k < n
    · obtain ⟨h1, h2, h3⟩ := hx.2 k c
      rw [if_neg (nle (by omega) (by omega) (by omega)), nn_nat (show k < 2147483648 by omega), if_neg (ng (by omega) (by omega)), h3, if_neg (fun q => of_decide_eq_false (hc c) ((sb_32 _ h1).mp q))]
    · rw [if_pos (nleT (by omega) (by omega) (by omega))]
theorem m_isDigit (hx : TX b bytes tape n) (hi : i ≤ n) : f12_isDigit tape (nn n) (nn i) = some (if i < n ∧ isDi (b i) = true then 1 else 0) := by
  have hn := hx.1
  unfold f12_isDigit
  by_cases c : i < n
  · obtain ⟨h1, h2, h3⟩ := hx.2 i c
    have hs := sb_dig _ h1
    rw [if_neg (nle (by omega) (by omega) (by omega)), nn_nat (show i < 2147483648 by omega), if_neg (ng (by omega) (by omega)), h3]
    by_cases d1 : sb (b i) < 48
    · rw [if_pos d1] at hs ⊢
      by_cases d3 : isDi (b i) = true
      · rw [if_pos d3] at hs; exact absurd hs (by decide)
      · rw [if_neg (fun h => d3 h.2)]
    · rw [if_neg d1] at hs ⊢
      rw [if_neg (ng (by omega) (by omega))]
      by_cases d2 : 57 < sb (b i)
      · rw [if_pos d2] at hs ⊢
        by_cases d3 : isDi (b i) = true
        · rw [if_pos d3] at hs; exact absurd hs (by decide)
        · rw [if_neg (fun h => d3 h.2)]
      · rw [if_neg d2] at hs ⊢
        by_cases d3 : isDi (b i) = true
        · rw [if_pos ⟨c, d3⟩]
        · rw [if_neg d3] at hs; exact absurd hs (by decide)
  · rw [if_pos (nleT (by omega) (by omega) (by omega)), if_neg (fun h => c h.1)]
theorem m_isLetter (hx : TX b bytes tape n) (hi : i ≤ n) : f12_isLetter tape (nn n) (nn i) = some (if i < n ∧ isLe (b i) = true then 1 else 0) := by
  have hn := hx.1
  unfold f12_isLetter
  by_cases c : i < n
  · obtain ⟨h1, h2, h3⟩ := hx.2 i c
    have hs := sb_let _ h1
    rw [if_neg (nle (by omega) (by omega) (by omega)), nn_nat (show i < 2147483648 by omega), if_neg (ng (by omega) (by omega)), h3]
    by_cases d1 : sb (b i) < 97
    · rw [if_pos d1] at hs ⊢
      by_cases d3 : isLe (b i) = true
      · rw [if_pos d3] at hs; exact absurd hs (by decide)
      · rw [if_neg (fun h => d3 h.2)]
    · rw [if_neg d1] at hs ⊢
      rw [if_neg (ng (by omega) (by omega))]
      by_cases d2 : 122 < sb (b i)
      · rw [if_pos d2] at hs ⊢
        by_cases d3 : isLe (b i) = true
        · rw [if_pos d3] at hs; exact absurd hs (by decide)
        · rw [if_neg (fun h => d3 h.2)]
      · rw [if_neg d2] at hs ⊢
        by_cases d3 : isLe (b i) = true
        · rw [if_pos ⟨c, d3⟩]
        · rw [if_neg d3] at hs; exact absurd hs (by decide)
  · rw [if_pos (nleT (by omega) (by omega) (by omega)), if_neg (fun h => c h.1)]
theorem m_let1 (hx : TX b bytes tape n) (hi : i < n) (h : isLe (b i) = true) : f12_isLetter tape (nn n) (nn i) = some 1 := by
  rw [m_isLetter hx (Nat.le_of_lt hi), if_pos ⟨hi, h⟩]
theorem m_let0 (hx : TX b bytes tape n) (hi : i ≤ n) (h : i < n → isLe (b i) = false) : f12_isLetter tape (nn n) (nn i) = some 0 := by
  rw [m_isLetter hx hi, if_neg (fun q => by have := h q.1; rw [q.2] at this; cases this)]
theorem m_dig1 (hx : TX b bytes tape n) (hi : i < n) (h : isDi (b i) = true) : f12_isDigit tape (nn n) (nn i) = some 1 := by
  rw [m_isDigit hx (Nat.le_of_lt hi), if_pos ⟨hi, h⟩]
theorem m_dig0 (hx : TX b bytes tape n) (hi : i ≤ n) (h : i < n → isDi (b i) = false) : f12_isDigit tape (nn n) (nn i) = some 0 := by
  rw [m_isDigit hx hi, if_neg (fun q => by have := h q.1; rw [q.2] at this; cases this)]
theorem m_passWord (hx : TX b bytes tape n) (h : Rn isLe b n s e) : f12_passWord tape (nn n) (nn s) = some (nn e) := by
  unfold f12_passWord
  rw [run_loop (B := fun (z : Int32) => f12_passWord_B0 tape (nn n) z) hx.1 ?h1 ?h2 h]
  · rw [bnd1_s]
  case h1 =>
    intro k hk hc
    unfold f12_passWord_B0
    rw [m_let1 hx hk hc, bnd1_s, if_neg (show ¬ (1 : Int32) = 0 by decide), lt_df, nn_succ]
  case h2 =>
    intro k hk hc
    unfold f12_passWord_B0
    rw [m_let0 hx hk hc, bnd1_s, if_pos rfl]
/-- what the class's tape has at hand -/
def Tk (b : Nat → Nat) (n s : Nat) (kind sign : Int32) (e : Nat) : Prop :=
  s ≤ n ∧ ((s = n ∧ e = n ∧ kind = 0) ∨ (s < n ∧ isSp (b s) = false ∧ s < e ∧ e ≤ n ∧ ((isLe (b s) = true ∧ kind = 1 ∧ sign = nn (b s) ∧ Rn isLe b n s e) ∨ (isDi (b s) = true ∧ kind = 2 ∧ sign = nn (b s) ∧ Rn isDi b n s e) ∨ (isLe (b s) = false ∧ isDi (b s) = false ∧ kind = 3 ∧ (((b s = 60 ∨ b s = 62) ∧ s + 1 < n ∧ b (s + 1) = 61 ∧ sign = nn (b s + 256) ∧ e = s + 2) ∨ (¬ ((b s = 60 ∨ b s = 62) ∧ s + 1 < n ∧ b (s + 1) = 61) ∧ sign = nn (b s) ∧ e = s + 1))))))
theorem c_run {lo hi : Nat} {c : Nat → Bool} (hlo : lo < 256) (hhi : hi < 256) (hc : ∀ x, c x = (decide (lo ≤ x) && decide (x ≤ hi))) (hx : TX b bytes tape n) (h : Rn c b n s e) : iter (fun (z : Int32) => f9_advance_B177 (nn n) bytes (nn lo) (nn hi) z) FUEL (nn s) = some (nn e) := by
  have hn := hx.1
  refine run_loop hn (fun k hk hck => ?_) (fun k hk hck => ?_) h
  · obtain ⟨h1, h2, h3⟩ := hx.2 k hk
    rw [hc, Bool.and_eq_true] at hck
    have g1 := of_decide_eq_true hck.1
    have g2 := of_decide_eq_true hck.2
    unfold f9_advance_B177
    rw [if_neg (nle (by omega) (by omega) (by omega)), nn_nat (show k < 2147483648 by omega), if_neg (ng (by omega) (by omega)), h2, if_neg (nlt (by omega) (by omega) (by omega)), if_neg (ng (by omega) (by omega)), if_neg (nlt (by omega) (by omega) (by omega)), lt_df, nn_succ]
  · unfold f9_advance_B177
    by_cases ck : k < n
    · obtain ⟨h1, h2, h3⟩ := hx.2 k ck
      have hf := hck ck
      rw [hc] at hf
      rw [if_neg (nle (by omega) (by omega) (by omega)), nn_nat (show k < 2147483648 by omega), if_neg (ng (by omega) (by omega)), h2]
      by_cases d : b k < lo
      · rw [if_pos (nltT (by omega) (by omega) d)]
      · have d2 : hi < b k := by
          refine Nat.lt_of_not_le (fun q => ?_)
          rw [decide_eq_true (show lo ≤ b k by omega), decide_eq_true q] at hf
          cases hf
        rw [if_neg (nlt (by omega) (by omega) (by omega)), if_neg (ng (by omega) (by omega)), if_pos (nltT (by omega) (by omega) d2)]
    · rw [if_pos (nleT (by omega) (by omega) (by omega))]
theorem c_advance {kind sign start : Int32} (hx : TX b bytes tape n) (h : Rn isSp b n i s) : ∃ k1 g1 e, f9_advance bytes (nn n) kind sign start (nn i) = some (k1, g1, nn s, nn e) ∧ Tk b n s k1 g1 e := by
  have hn := hx.1
  have hs := h.2.1
  have hrun : iter (fun (z : Int32) => f9_advance_B8 (nn n) bytes z) FUEL (nn i) = some (nn s) := by
    refine run_loop hn (fun k hk hc => ?_) (fun k hk hc => ?_) h
    · obtain ⟨h1, h2, h3⟩ := hx.2 k hk
      unfold f9_advance_B8
      rw [if_neg (nle (by omega) (by omega) (by omega)), nn_nat (show k < 2147483648 by omega), if_neg (ng (by omega) (by omega)), h2, if_pos (show nn (b k) = 32 by rw [of_decide_eq_true hc]; rfl), lt_df, nn_succ]
    · unfold f9_advance_B8
      by_cases c : k < n
      · obtain ⟨h1, h2, h3⟩ := hx.2 k c
        rw [if_neg (nle (by omega) (by omega) (by omega)), nn_nat (show k < 2147483648 by omega), if_neg (ng (by omega) (by omega)), h2, if_neg (show ¬ nn (b k) = 32 from nne (b := 32) (by omega) (by decide) (of_decide_eq_false (hc c)))]
      · rw [if_pos (nleT (by omega) (by omega) (by omega))]
  unfold f9_advance
  rw [hrun, bnd1_s]
  by_cases c : s < n
  · obtain ⟨h1, h2, h3⟩ := hx.2 s c
    rw [if_pos (nltT (by omega) (by omega) c), nn_nat (show s < 2147483648 by omega), if_neg (ng (by omega) (by omega)), h2, lt_df, lt_df, nn_succ]
    have hsp := h.2.2.2 c
    have word : isLe (b s) = true → ∃ e, Rn isLe b n s e ∧ s < e ∧ Rn isLe b n (s + 1) e := by
      intro hl
      obtain ⟨e, he⟩ := Rn_ex isLe b n (n - s) s (by omega)
      have hu := he.up c hl
      exact ⟨e, he, hu, by omega, he.2.1, fun k k1 k2 => he.2.2.1 k (by omega) k2, he.2.2.2⟩
    have numb : isDi (b s) = true → ∃ e, Rn isDi b n s e ∧ s < e ∧ Rn isDi b n (s + 1) e := by
      intro hl
      obtain ⟨e, he⟩ := Rn_ex isDi b n (n - s) s (by omega)
      have hu := he.up c hl
      exact ⟨e, he, hu, by omega, he.2.1, fun k k1 k2 => he.2.2.1 k (by omega) k2, he.2.2.2⟩
    have sgn : isLe (b s) = false → isDi (b s) = false → ∃ k1 g1 e, f9_advance_J228 (nn n) bytes kind (nn (b s)) (nn s) (nn (s + 1)) = some (k1, g1, nn s, nn e) ∧ Tk b n s k1 g1 e := by
      intro hl hd
      have two : ∀ (hb : b s = 60 ∨ b s = 62), ∃ k1 g1 e, f9_advance_J251 (nn n) bytes 3 (nn (b s)) (nn s) (nn (s + 1)) = some (k1, g1, nn s, nn e) ∧ Tk b n s k1 g1 e := by
        intro hb
        unfold f9_advance_J251
        by_cases c2 : s + 1 < n
        · obtain ⟨q1, q2, q3⟩ := hx.2 (s + 1) c2
          rw [if_neg (nle (by omega) (by omega) (by omega)), nn_nat (show s + 1 < 2147483648 by omega), if_neg (ng (by omega) (by omega)), q2]
          by_cases c3 : b (s + 1) = 61
          · rw [if_pos (show nn (b (s + 1)) = 61 by rw [c3]; rfl), lt_df, lt_df, nn_succ, show nn (b s) + 256 = nn (b s + 256) from nn_add _ 256]
            exact ⟨_, _, s + 2, rfl, hs, Or.inr ⟨c, hsp, by omega, by omega, Or.inr (Or.inr ⟨hl, hd, rfl, Or.inl ⟨hb, c2, c3, rfl, rfl⟩⟩)⟩⟩
          · rw [if_neg (show ¬ nn (b (s + 1)) = 61 from nne (b := 61) (by omega) (by decide) c3)]
            exact ⟨_, _, s + 1, rfl, hs, Or.inr ⟨c, hsp, by omega, by omega, Or.inr (Or.inr ⟨hl, hd, rfl, Or.inr ⟨fun q => c3 q.2.2, rfl, rfl⟩⟩)⟩⟩
        · rw [if_pos (nleT (by omega) (by omega) (by omega))]
          exact ⟨_, _, s + 1, rfl, hs, Or.inr ⟨c, hsp, by omega, by omega, Or.inr (Or.inr ⟨hl, hd, rfl, Or.inr ⟨fun q => c2 q.2.1, rfl, rfl⟩⟩)⟩⟩
      unfold f9_advance_J228
      by_cases c1 : b s = 60
      · rw [if_pos (show nn (b s) = 60 by rw [c1]; rfl)]
        exact two (Or.inl c1)
      · rw [if_neg (show ¬ nn (b s) = 60 from nne (b := 60) (by omega) (by decide) c1)]
        by_cases c2 : b s = 62
        · rw [if_pos (show nn (b s) = 62 by rw [c2]; rfl)]
          exact two (Or.inr c2)
        · rw [if_neg (show ¬ nn (b s) = 62 from nne (b := 62) (by omega) (by decide) c2)]
          exact ⟨_, _, s + 1, rfl, hs, Or.inr ⟨c, hsp, by omega, by omega, Or.inr (Or.inr ⟨hl, hd, rfl, Or.inr ⟨fun q => q.1.elim c1 c2, rfl, rfl⟩⟩)⟩⟩
    have other : isLe (b s) = false → ∃ k1 g1 e, f9_advance_J116 (nn n) bytes kind (nn (b s)) (nn s) (nn (s + 1)) = some (k1, g1, nn s, nn e) ∧ Tk b n s k1 g1 e := by
      intro hl
      unfold f9_advance_J116 f9_advance_J117
      rw [if_pos rfl]
      by_cases c1 : b s < 48
      · rw [if_pos (show nn (b s) < 48 from nltT (b := 48) (by omega) (by decide) c1)]
        refine sgn hl ?_
        unfold isDi
        rw [decide_eq_false (show ¬ 48 ≤ b s by omega)]; rfl
      · rw [if_neg (show ¬ nn (b s) < 48 from nlt (b := 48) (by omega) (by decide) c1)]
        by_cases c2 : 57 < b s
        · rw [if_pos (show 57 < nn (b s) from nltT (a := 57) (by decide) (by omega) c2)]
          refine sgn hl ?_
          unfold isDi
          rw [decide_eq_false (show ¬ b s ≤ 57 by omega), Bool.and_false]
        · have hd : isDi (b s) = true := by
            unfold isDi
            rw [decide_eq_true (show 48 ≤ b s by omega), decide_eq_true (show b s ≤ 57 by omega)]; rfl
          obtain ⟨e, e1, e2, e3⟩ := numb hd
          rw [if_neg (show ¬ 57 < nn (b s) from nlt (a := 57) (by decide) (by omega) c2)]
          unfold f9_advance_J140 f9_advance_J150 f9_advance_J164 f9_advance_J176
          rw [if_pos rfl, if_pos rfl, if_pos rfl]
          rw [show iter (fun (z : Int32) => f9_advance_B177 (nn n) bytes 48 57 z) FUEL (nn (s + 1)) = some (nn e) from c_run (lo := 48) (hi := 57) (by decide) (by decide) (fun _ => rfl) hx e3, bnd1_s]
          exact ⟨_, _, e, rfl, hs, Or.inr ⟨c, hsp, e2, e1.2.1, Or.inr (Or.inl ⟨hd, rfl, rfl, e1⟩)⟩⟩
    by_cases c1 : b s < 97
    · rw [if_pos (show nn (b s) < 97 from nltT (b := 97) (by omega) (by decide) c1)]
      refine other ?_
      unfold isLe
      rw [decide_eq_false (show ¬ 97 ≤ b s by omega)]; rfl
    · rw [if_neg (show ¬ nn (b s) < 97 from nlt (b := 97) (by omega) (by decide) c1)]
      by_cases c2 : 122 < b s
      · rw [if_pos (show 122 < nn (b s) from nltT (a := 122) (by decide) (by omega) c2)]
        refine other ?_
        unfold isLe
        rw [decide_eq_false (show ¬ b s ≤ 122 by omega), Bool.and_false]
      · have hl : isLe (b s) = true := by
          unfold isLe
          rw [decide_eq_true (show 97 ≤ b s by omega), decide_eq_true (show b s ≤ 122 by omega)]; rfl
        obtain ⟨e, e1, e2, e3⟩ := word hl
        rw [if_neg (show ¬ 122 < nn (b s) from nlt (a := 122) (by decide) (by omega) c2)]
        unfold f9_advance_J117
        rw [if_neg (show ¬ (1 : Int32) = 0 by decide)]
        unfold f9_advance_J140 f9_advance_J150 f9_advance_J164 f9_advance_J176
        rw [if_neg (show ¬ (1 : Int32) = 0 by decide), if_neg (show ¬ (1 : Int32) = 0 by decide), if_neg (show ¬ (1 : Int32) = 0 by decide)]
        rw [show iter (fun (z : Int32) => f9_advance_B177 (nn n) bytes 97 122 z) FUEL (nn (s + 1)) = some (nn e) from c_run (lo := 97) (hi := 122) (by decide) (by decide) (fun _ => rfl) hx e3, bnd1_s]
        exact ⟨_, _, e, rfl, hs, Or.inr ⟨c, hsp, e2, e1.2.1, Or.inl ⟨hl, rfl, rfl, e1⟩⟩⟩
  · rw [if_neg (nlt (by omega) (by omega) (by omega))]
    exact ⟨_, _, s, rfl, hs, Or.inl ⟨by omega, by omega, rfl⟩⟩
end
