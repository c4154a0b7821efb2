/-! a rule's text: terms and sums -/
def SBl (bytes : Nat → Int32) (n : Nat) : (Nat → Int32) × Int32 × Int32 × Int32 × Int32 × Int32 × Int32 × Int32 × Int32 × Int32 → Option (((Nat → Int32) × Int32 × Int32 × Int32 × Int32 × Int32 × Int32 × Int32 × Int32 × Int32) ⊕ ((Int32 × (Nat → Int32) × Int32 × Int32 × Int32 × Int32 × Int32 × Int32 × Int32) ⊕ ((Nat → Int32) × Int32 × Int32 × Int32 × Int32 × Int32 × Int32 × Int32 × Int32))) := (fun (z : (Nat → Int32) × Int32 × Int32 × Int32 × Int32 × Int32 × Int32 × Int32 × Int32 × Int32) => f6_readSum_B13 bytes (nn n) z.1 z.2.1 z.2.2.1 z.2.2.2.1 z.2.2.2.2.1 z.2.2.2.2.2.1 z.2.2.2.2.2.2.1 z.2.2.2.2.2.2.2.1 z.2.2.2.2.2.2.2.2.1 z.2.2.2.2.2.2.2.2.2)
def TBl (tape : Nat → Int32) (tn tx : Int32) : (Nat → Int32) × (Nat → Int32) × Int32 × Int32 × Int32 × Int32 → Option (((Nat → Int32) × (Nat → Int32) × Int32 × Int32 × Int32 × Int32) ⊕ ((Int32 × (Nat → Int32) × (Nat → Int32) × Int32 × Int32 × Int32 × Int32) ⊕ ((Nat → Int32) × (Nat → Int32) × Int32 × Int32 × Int32 × Int32))) := (fun (z : (Nat → Int32) × (Nat → Int32) × Int32 × Int32 × Int32 × Int32) => f12_term_B9 tape tn tx z.1 z.2.1 z.2.2.1 z.2.2.2.1 z.2.2.2.2.1 z.2.2.2.2.2)
def SRl (tape : Nat → Int32) (tn tx : Int32) : (Nat → Int32) × (Nat → Int32) × Int32 × Int32 × Int32 × Int32 → Option (((Nat → Int32) × (Nat → Int32) × Int32 × Int32 × Int32 × Int32) ⊕ ((Int32 × (Nat → Int32) × (Nat → Int32) × Int32 × Int32 × Int32 × Int32) ⊕ ((Nat → Int32) × (Nat → Int32) × Int32 × Int32 × Int32 × Int32))) := (fun (z : (Nat → Int32) × (Nat → Int32) × Int32 × Int32 × Int32 × Int32) => f12_sum_B9 tape tn tx z.1 z.2.1 z.2.2.1 z.2.2.2.1 z.2.2.2.2.1 z.2.2.2.2.2)
section
variable {b : Nat → Nat} {bytes tape : Nat → Int32} {n i j s e k u : Nat} {code sg0 sgn len : Nat → Int32} {size : Int32} {its : List (Nat × Nat)}
theorem app3 {α : Type} (a b c : List α) : a ++ b ++ c = a ++ (b ++ c) := List.append_assoc a b c
/-- the class's step at * / % -/
theorem c_close {c o q : Nat} {kind sign w : Int32} (hco : (c = 42 ∧ o = 4) ∨ (c = 47 ∧ o = 5) ∨ (c = 37 ∧ o = 14)) (hx : TX b bytes tape n) (ht : Tk b n s kind sign e) (hs : s < n) (hb : b s = c) (hq : q < 400) {X : Option (((Nat → Int32) × Int32 × Int32 × Int32 × Int32 × Int32 × Int32 × Int32 × Int32 × Int32) ⊕ ((Int32 × (Nat → Int32) × Int32 × Int32 × Int32 × Int32 × Int32 × Int32 × Int32) ⊕ ((Nat → Int32) × Int32 × Int32 × Int32 × Int32 × Int32 × Int32 × Int32 × Int32)))}
    (hX : f6_readSum_J115 bytes (nn n) code size (nn u) kind sign 0 (nn s) (nn e) w (nn q) (nn (opC o)) 1 = X) : SBl bytes n (code, size, nn u, kind, sign, (0 : Int32), nn s, nn e, w, nn q) = X := by
  have hsg : sign = nn c := by
    rcases ht.2 with ⟨h1, -⟩ | ⟨h1, h2, h3, h4, h5⟩
    · omega
    · rcases h5 with ⟨g1, -⟩ | ⟨g1, -⟩ | ⟨g1, g2, -, g4⟩
      · have := isLe_iff.mp g1; omega
      · have := isDi_iff.mp g1; omega
      · rcases g4 with ⟨q1, -⟩ | ⟨-, q2, -⟩
        · omega
        · rw [q2, hb]
  unfold SBl f6_readSum_B13
  dsimp only
  rw [if_neg (show ¬ (400 : Int32) ≤ nn q from nle (a := 400) (by decide) (by omega) (by omega))]
  have at1 : ∀ (c' : Nat), c' = c → f9_isAt kind sign (nn c') = some 1 := by
    intro c' h
    subst h
    rcases ht.isAt (c := c') hx (by omega) (by rcases hco with ⟨rfl, -⟩ | ⟨rfl, -⟩ | ⟨rfl, -⟩ <;> decide) (by rcases hco with ⟨rfl, -⟩ | ⟨rfl, -⟩ | ⟨rfl, -⟩ <;> decide) (by omega) (by omega) with ⟨-, -, -, h4⟩ | ⟨h1, -⟩
    · exact h4
    · exact absurd hb (h1 hs)
  have at0 : ∀ (c' : Nat), (c' = 42 ∨ c' = 47) → c' ≠ c → f9_isAt kind sign (nn c') = some 0 := by
    intro c' h hne
    rcases ht.isAt (c := c') hx (by omega) (by rcases h with rfl | rfl <;> decide) (by rcases h with rfl | rfl <;> decide) (by omega) (by omega) with ⟨-, h2, -, -⟩ | ⟨-, h4⟩
    · exact absurd (h2.symm.trans hb) hne
    · exact h4
  have tail : f6_readSum_J64 bytes (nn n) code size (nn u) kind sign 0 (nn s) (nn e) w (nn q) sign = X := by
    unfold f6_readSum_J64 f6_readSum_J69 f6_readSum_J103
    rw [if_neg (show ¬ (1 : Int32) = 0 by decide), if_neg (show ¬ (1 : Int32) = 0 by decide), ← hX]
    have : sign = nn (opC o) := by rw [hsg]; rcases hco with ⟨rfl, rfl⟩ | ⟨rfl, rfl⟩ | ⟨rfl, rfl⟩ <;> rfl
    rw [← this]
  rcases hco with ⟨rfl, rfl⟩ | ⟨rfl, rfl⟩ | ⟨rfl, rfl⟩
  · rw [show f9_isAt kind sign 42 = _ from at1 42 rfl, bnd1_s, if_neg (show ¬ (1 : Int32) = 0 by decide)]; exact tail
  · rw [show f9_isAt kind sign 42 = _ from at0 42 (Or.inl rfl) (by decide), bnd1_s, if_pos rfl, show f9_isAt kind sign 47 = _ from at1 47 rfl, bnd1_s, if_neg (show ¬ (1 : Int32) = 0 by decide)]; exact tail
  · rw [show f9_isAt kind sign 42 = _ from at0 42 (Or.inl rfl) (by decide), bnd1_s, if_pos rfl, show f9_isAt kind sign 47 = _ from at0 47 (Or.inr rfl) (by decide), bnd1_s, if_pos rfl, show f9_isAt kind sign 37 = _ from at1 37 rfl, bnd1_s, if_neg (show ¬ (1 : Int32) = 0 by decide)]; exact tail
/-- the class's step at + or -, and at anything else -/
theorem c_plus {c o q : Nat} {kind sign w : Int32} (hco : (c = 43 ∧ o = 2) ∨ (c = 45 ∧ o = 3)) (hx : TX b bytes tape n) (ht : Tk b n s kind sign e) (hs : s < n) (hb : b s = c) (hq : q < 400) {X : Option (((Nat → Int32) × Int32 × Int32 × Int32 × Int32 × Int32 × Int32 × Int32 × Int32 × Int32) ⊕ ((Int32 × (Nat → Int32) × Int32 × Int32 × Int32 × Int32 × Int32 × Int32 × Int32) ⊕ ((Nat → Int32) × Int32 × Int32 × Int32 × Int32 × Int32 × Int32 × Int32 × Int32)))}
    (hX : bnd2 (f6_emitWaiting code size w) (fun code_87 size_88 => f6_readSum_J115 bytes (nn n) code_87 size_88 (nn u) kind sign 0 (nn s) (nn e) (nn (opC o)) (nn q) (nn (opC o)) 0) = X) : SBl bytes n (code, size, nn u, kind, sign, (0 : Int32), nn s, nn e, w, nn q) = X := by
  have hsg : sign = nn c := by
    rcases ht.2 with ⟨h1, -⟩ | ⟨h1, h2, h3, h4, h5⟩
    · omega
    · rcases h5 with ⟨g1, -⟩ | ⟨g1, -⟩ | ⟨g1, g2, -, g4⟩
      · have := isLe_iff.mp g1; omega
      · have := isDi_iff.mp g1; omega
      · rcases g4 with ⟨q1, -⟩ | ⟨-, q2, -⟩
        · omega
        · rw [q2, hb]
  have at0 : ∀ (c' : Nat), (c' = 42 ∨ c' = 47 ∨ c' = 37 ∨ c' = 43 ∨ c' = 45) → c' ≠ c → f9_isAt kind sign (nn c') = some 0 := by
    intro c' h hne
    rcases ht.isAt (c := c') hx (by omega) (by rcases h with rfl | rfl | rfl | rfl | rfl <;> decide) (by rcases h with rfl | rfl | rfl | rfl | rfl <;> decide) (by omega) (by omega) with ⟨-, h2, -, -⟩ | ⟨-, h4⟩
    · exact absurd (h2.symm.trans hb) hne
    · exact h4
  have at1 : ∀ (c' : Nat), (c' = 43 ∨ c' = 45) → c' = c → f9_isAt kind sign (nn c') = some 1 := by
    intro c' h he
    rcases ht.isAt (c := c') hx (by omega) (by rcases h with rfl | rfl <;> decide) (by rcases h with rfl | rfl <;> decide) (by omega) (by omega) with ⟨-, -, -, h4⟩ | ⟨h1, -⟩
    · exact h4
    · exact absurd (hb.trans he.symm) (h1 hs)
  unfold SBl f6_readSum_B13
  dsimp only
  rw [if_neg (show ¬ (400 : Int32) ≤ nn q from nle (a := 400) (by decide) (by omega) (by omega)), show f9_isAt kind sign 42 = _ from at0 42 (by omega) (by omega), bnd1_s, if_pos rfl, show f9_isAt kind sign 47 = _ from at0 47 (by omega) (by omega), bnd1_s, if_pos rfl, show f9_isAt kind sign 37 = _ from at0 37 (by omega) (by omega), bnd1_s, if_pos rfl]
  unfold f6_readSum_J69 f6_readSum_J103
  have hs2 : sign = nn (opC o) := by rw [hsg]; rcases hco with ⟨rfl, rfl⟩ | ⟨rfl, rfl⟩ <;> rfl
  rcases hco with ⟨rfl, rfl⟩ | ⟨rfl, rfl⟩
  · rw [if_pos rfl, show f9_isAt kind sign 43 = _ from at1 43 (Or.inl rfl) rfl, bnd1_s, if_neg (show ¬ (1 : Int32) = 0 by decide), if_pos rfl, ← hX, ← hs2]
  · rw [if_pos rfl, show f9_isAt kind sign 43 = _ from at0 43 (by omega) (by decide), bnd1_s, if_pos rfl, show f9_isAt kind sign 45 = _ from at1 45 (Or.inr rfl) rfl, bnd1_s, if_neg (show ¬ (1 : Int32) = 0 by decide), if_pos rfl, ← hX, ← hs2]
theorem c_sumEnd {q : Nat} {kind sign w : Int32} (hx : TX b bytes tape n) (ht : Tk b n s kind sign e) (hb : s < n → b s ≠ 42 ∧ b s ≠ 47 ∧ b s ≠ 37 ∧ b s ≠ 43 ∧ b s ≠ 45) : SBl bytes n (code, size, nn u, kind, sign, (0 : Int32), nn s, nn e, w, nn q) = some (.inr (.inr (code, size, nn u, kind, sign, 0, nn s, nn e, w))) := by
  have at0 : ∀ (c' : Nat), (c' = 42 ∨ c' = 47 ∨ c' = 37 ∨ c' = 43 ∨ c' = 45) → f9_isAt kind sign (nn c') = some 0 := by
    intro c' h
    rcases ht.isAt (c := c') hx (by omega) (by rcases h with rfl | rfl | rfl | rfl | rfl <;> decide) (by rcases h with rfl | rfl | rfl | rfl | rfl <;> decide) (by omega) (by omega) with ⟨h1, h2, -, -⟩ | ⟨-, h4⟩
    · have := hb h1
      omega
    · exact h4
  unfold SBl f6_readSum_B13
  dsimp only
  by_cases c : (400 : Int32) ≤ nn q
  · rw [if_pos c]
  · rw [if_neg c, show f9_isAt kind sign 42 = _ from at0 42 (by omega), bnd1_s, if_pos rfl, show f9_isAt kind sign 47 = _ from at0 47 (by omega), bnd1_s, if_pos rfl, show f9_isAt kind sign 37 = _ from at0 37 (by omega), bnd1_s, if_pos rfl]
    unfold f6_readSum_J69
    rw [if_pos rfl, show f9_isAt kind sign 43 = _ from at0 43 (by omega), bnd1_s, if_pos rfl, show f9_isAt kind sign 45 = _ from at0 45 (by omega), bnd1_s, if_pos rfl]
end
