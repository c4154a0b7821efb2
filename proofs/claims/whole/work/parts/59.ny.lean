/-! the search: from place to place, first come -/
def suc (S : Nat → Int32) (P : Nat) (d : Nat → Nat) (m : Nat) : Option (Nat → Nat) :=
  if P ≤ m / 8 then none
  else if S (46 + 4 * (m / 8)) < 0 then none
  else if m % 8 < 2 then (if sStep (SD P S d) P (m / 8) (sWy (m % 8)) = -1 then none else some (upN d (m / 8) (sStep (SD P S d) P (m / 8) (sWy (m % 8))).toNatClampNeg))
  else if m % 8 - 2 ≤ m / 8 ∨ P ≤ m % 8 - 2 then none
  else if cpV (SD P S d) (m / 8) (m % 8 - 2) = 0 then none
  else some (upN (upN d (m / 8) (d (m % 8 - 2))) (m % 8 - 2) (d (m / 8)))
def cdO (P : Nat) : Option (Nat → Nat) → Int32
  | none => -1
  | some d => nn (hc 9 d 0 P)
abbrev EN : Type := (Nat → Nat) × Nat × Nat × Nat
def cd9 (P : Nat) (e : EN) : Nat := hc 9 e.1 0 P
def seenL (P : Nat) (L : List EN) (c : Nat) : Bool := L.any (fun e => decide (cd9 P e = c))
def pushE (P : Nat) (L : List EN) (e : EN) : List EN := if seenL P L (cd9 P e) then L else L ++ [e]
/-- all moves below m out of a place -/
def exM (S : Nat → Int32) (P lo hi : Nat) (d : Nat → Nat) (i dp : Nat) (L : List EN) : Nat → List EN
  | 0 => L
  | m + 1 => if lo ≤ m % 8 ∧ m % 8 < hi then (match suc S P d m with
    | none => exM S P lo hi d i dp L m
    | some d' => pushE P (exM S P lo hi d i dp L m) (d', i, m, dp)) else exM S P lo hi d i dp L m
section
variable {S : Nat → Int32} {P lo hi i dp : Nat} {d : Nat → Nat} {L : List EN}
theorem exM_no {m : Nat} (h : ¬ (lo ≤ m % 8 ∧ m % 8 < hi) ∨ suc S P d m = none) : exM S P lo hi d i dp L (m + 1) = exM S P lo hi d i dp L m := by
  show (if lo ≤ m % 8 ∧ m % 8 < hi then (match suc S P d m with
    | none => exM S P lo hi d i dp L m
    | some d' => pushE P (exM S P lo hi d i dp L m) (d', i, m, dp)) else exM S P lo hi d i dp L m) = _
  rcases h with h | h
  · rw [if_neg h]
  · split
    · rw [h]
    · rfl
theorem exM_so {m : Nat} {d' : Nat → Nat} (h : lo ≤ m % 8 ∧ m % 8 < hi) (h2 : suc S P d m = some d') : exM S P lo hi d i dp L (m + 1) = pushE P (exM S P lo hi d i dp L m) (d', i, m, dp) := by
  show (if lo ≤ m % 8 ∧ m % 8 < hi then (match suc S P d m with
    | none => exM S P lo hi d i dp L m
    | some d' => pushE P (exM S P lo hi d i dp L m) (d', i, m, dp)) else exM S P lo hi d i dp L m) = _
  rw [if_pos h, h2]
theorem exM_gap {m : Nat} : ∀ {n : Nat}, (∀ q, m ≤ q → q < m + n → ¬ (lo ≤ q % 8 ∧ q % 8 < hi) ∨ suc S P d q = none) → exM S P lo hi d i dp L (m + n) = exM S P lo hi d i dp L m
  | 0, _ => rfl
  | n + 1, h => (exM_no (h (m + n) (by omega) (by omega))).trans (exM_gap (fun q h1 h2 => h q h1 (by omega)))
theorem exM_gap' {m m2 : Nat} (hm : m ≤ m2) (h : ∀ q, m ≤ q → q < m2 → ¬ (lo ≤ q % 8 ∧ q % 8 < hi) ∨ suc S P d q = none) : exM S P lo hi d i dp L m2 = exM S P lo hi d i dp L m := by
  obtain ⟨n, rfl⟩ : ∃ n, m2 = m + n := ⟨m2 - m, by omega⟩
  exact exM_gap h
theorem suc_far {m : Nat} (h : P ≤ m / 8) : suc S P d m = none := if_pos h
theorem suc_q {m : Nat} (h2 : ¬ m % 8 < 2) (h : m % 8 - 2 ≤ m / 8 ∨ P ≤ m % 8 - 2) : suc S P d m = none := by
  unfold suc
  by_cases c1 : P ≤ m / 8
  · rw [if_pos c1]
  · rw [if_neg c1]
    by_cases c2 : S (46 + 4 * (m / 8)) < 0
    · rw [if_pos c2]
    · rw [if_neg c2, if_neg h2, if_pos h]
theorem suc_fall {m : Nat} (h : S (46 + 4 * (m / 8)) < 0) : suc S P d m = none := by
  unfold suc
  by_cases c1 : P ≤ m / 8
  · rw [if_pos c1]
  · rw [if_neg c1, if_pos h]
end
section
variable {S : Nat → Int32} {R P : Nat} {d : Nat → Nat}
theorem suc_VD {m : Nat} {d' : Nat → Nat} (hI : IV R P S) (hd : VD R P S d) (h : suc S P d m = some d') : VD R P S d' := by
  have hR9 := hI.1.1
  have hP4 := hI.1.2.1
  have hI2 := IV_SD hI hd
  unfold suc at h
  by_cases c1 : P ≤ m / 8
  · rw [if_pos c1] at h; cases h
  rw [if_neg c1] at h
  by_cases c2 : S (46 + 4 * (m / 8)) < 0
  · rw [if_pos c2] at h; cases h
  rw [if_neg c2] at h
  by_cases c3 : m % 8 < 2
  · rw [if_pos c3] at h
    rcases sStep_cases hI2.1.2.2.1 hR9 P (m / 8) (sWy (m % 8)) with e | ⟨r, hr, e, h0⟩
    · rw [if_pos e] at h; cases h
    · rw [e, if_neg (nn_ne_m1 (by omega)), nn_nat (by omega)] at h
      obtain rfl := Option.some.inj h
      intro p hp
      by_cases ep : p = m / 8
      · subst ep
        rw [upN_at]
        exact ⟨hr, fun h2 => absurd h2 c2, fun _ => (SD_o (by omega)).symm.trans h0⟩
      · rw [upN_ne ep]; exact hd p hp
  rw [if_neg c3] at h
  by_cases c4 : m % 8 - 2 ≤ m / 8 ∨ P ≤ m % 8 - 2
  · rw [if_pos c4] at h; cases h
  rw [if_neg c4] at h
  by_cases c5 : cpV (SD P S d) (m / 8) (m % 8 - 2) = 0
  · rw [if_pos c5] at h; cases h
  rw [if_neg c5] at h
  obtain rfl := Option.some.inj h
  have c6 : ¬ S (46 + 4 * (m % 8 - 2)) < 0 := by
    intro h6
    refine c5 ?_
    unfold cpV
    rw [SD_f h6, if_pos h6]
    split <;> rfl
  intro p hp
  by_cases e1 : p = m % 8 - 2
  · subst e1
    rw [upN_at]
    have := hd (m / 8) (by omega)
    exact ⟨this.1, fun h2 => absurd h2 c6, fun _ => this.2.2 c2⟩
  · rw [upN_ne e1]
    by_cases e2 : p = m / 8
    · subst e2
      rw [upN_at]
      have := hd (m % 8 - 2) (by omega)
      exact ⟨this.1, fun h2 => absurd h2 c2, fun _ => this.2.2 c6⟩
    · rw [upN_ne e2]; exact hd p hp
theorem cpV_up {p q : Nat} (h : ¬ cpV S p q = 0) : ¬ S (46 + 4 * p) < 0 ∧ ¬ S (46 + 4 * q) < 0 := by
  unfold cpV at h
  by_cases h1 : S (46 + 4 * p) < 0
  · rw [if_pos h1] at h; exact absurd rfl h
  · rw [if_neg h1] at h
    by_cases h2 : S (46 + 4 * q) < 0
    · rw [if_pos h2] at h; exact absurd rfl h
    · exact ⟨h1, h2⟩
theorem SD_neg {p : Nat} (hp : p < P) (hR9 : R < 10) (hd : VD R P S d) : (SD P S d (46 + 4 * p) < 0) = (S (46 + 4 * p) < 0) := by
  by_cases h : S (46 + 4 * p) < 0
  · rw [SD_f h]
  · have := (hd p hp).1
    rw [SD_u hp h]
    exact propext ⟨fun h2 => absurd h2 (nlt0 (by omega)), fun h2 => absurd h2 h⟩
theorem m_swaps {p q : Nat} (hp : p < P) (hq : q < P) (hP4 : P < 5) (h1 : ¬ S (46 + 4 * p) < 0) (h2 : ¬ S (46 + 4 * q) < 0) (hpq : p ≠ q) : f12_swaps (SD P S d) (nn p) (nn q) = some (SD P S (upN (upN d p (d q)) q (d p))) := by
  unfold f12_swaps
  rw [m_p0 (by omega), m_p0 (by omega), bnd1_s, bnd1_s, (ix_p0 (show p < 4 by omega)).1, (ix_p0 (show q < 4 by omega)).1, if_neg (ix_p0 (show p < 4 by omega)).2, lt_df, if_neg (ix_p0 (show q < 4 by omega)).2, lt_df, SD_u hp h1, SD_u hq h2, SD_up hp h1, SD_up hq h2]
def mvK (p k : Nat) : Nat := 8 * p + if k < 2 then k else k + p + 1
theorem mvK_8 {p k : Nat} (hP4 : P < 5) (hp : p < P) (hk : k < P + 1 - p) : mvK p k / 8 = p ∧ mvK p k % 8 = if k < 2 then k else k + p + 1 := by
  unfold mvK
  split <;> omega
theorem m_codeBehind {p k : Nat} (hI : IV R P S) (hd : VD R P S d) (hp : p < P) (hk : k < P + 1 - p) : f12_codeBehind (SD P S d) (nn p) (nn k) = some (cdO P (suc S P d (mvK p k)), SD P S d) := by
  have hR9 := hI.1.1
  have hP4 := hI.1.2.1
  have hp4 : p < 4 := by omega
  have hI2 := IV_SD hI hd
  obtain ⟨e1, e2⟩ := mvK_8 hP4 hp hk
  have hsv := fun d' => suc_VD (m := mvK p k) (d' := d') hI hd
  unfold f12_codeBehind
  rw [m_up hP4 hR9 hd hp, bnd1_s]
  by_cases h : S (46 + 4 * p) < 0
  · rw [if_pos h, if_pos rfl, suc_fall (by rw [e1]; exact h)]
    rfl
  · rw [if_neg h, if_neg (show ¬ (1 : Int32) = 0 by decide), m_p0 hp4, bnd1_s]
    by_cases hk2 : k < 2
    · rw [if_pos hk2] at e2
      have hsx : suc S P d (mvK p k) = if sStep (SD P S d) P p (sWy k) = -1 then none else some (upN d p (sStep (SD P S d) P p (sWy k)).toNatClampNeg) := by
        unfold suc
        rw [e1, e2, if_neg (by omega), if_neg h, if_pos hk2]
      have j36 : ∀ t, t = sWy k → f12_codeBehind_J36 (nn p) (SD P S d) (SD P S d (46 + 4 * p)) (nn p) t = some (cdO P (suc S P d (mvK p k)), SD P S d) := by
        intro t ht
        subst ht
        unfold f12_codeBehind_J36
        rw [m_stepTo hI2.1.2.2.1 hR9 hI2.1.2.2.2.1 hP4 hp4, bnd1_s, (ix_p0 hp4).1]
        rcases sStep_cases hI2.1.2.2.1 hR9 P p (sWy k) with e | ⟨r, hr, e, h0⟩
        · rw [e, if_neg (show ¬ (0 : Int32) ≤ -1 by decide), hsx, if_pos e]
          rfl
        · rw [e, if_neg (nn_ne_m1 (by omega)), nn_nat (by omega)] at hsx
          rw [e, if_pos (n0le (by omega)), if_neg (ix_p0 hp4).2, lt_df, SD_up hp h, m_code hI (hsv _ hsx), bnd1_s, if_neg (ix_p0 hp4).2, lt_df, hsx, SD_u hp h, SD_up hp h]
          congr 2
          refine SD_congr (fun q hq _ => ?_)
          by_cases eq : q = p
          · subst eq; rw [upN_at]
          · rw [upN_ne eq, upN_ne eq]
      rw [if_neg (show ¬ (2 : Int32) ≤ nn k from nle (a := 2) (by omega) (by omega) (by omega))]
      rcases (show k = 0 ∨ k = 1 by omega) with rfl | rfl
      · rw [if_pos (show nn 0 = 0 from rfl)]; exact j36 1 rfl
      · rw [if_neg (show ¬ nn 1 = 0 by decide)]; exact j36 (-1) rfl
    · rw [if_neg hk2] at e2
      have hq : nn p + nn k - 1 = nn (p + k - 1) := by rw [nn_add]; exact nn_sub (a := p + k) (b := 1) (by omega)
      have hsx : suc S P d (mvK p k) = if cpV (SD P S d) p (p + k - 1) = 0 then none else some (upN (upN d p (d (p + k - 1))) (p + k - 1) (d p)) := by
        unfold suc
        rw [e1, e2, if_neg (by omega), if_neg h, if_neg (by omega), if_neg (by omega), show k + p + 1 - 2 = p + k - 1 by omega]
      rw [if_pos (show (2 : Int32) ≤ nn k from nleT (a := 2) (by omega) (by omega) (by omega)), hq, lt_df, m_canPass hI2 hp (show p + k - 1 < P by omega), bnd1_s, hsx]
      by_cases hc : cpV (SD P S d) p (p + k - 1) = 0
      · rw [if_pos hc, if_pos hc]; rfl
      · rw [if_neg hc] at hsx
        have hu := (cpV_up hc).2
        rw [SD_neg (show p + k - 1 < P by omega) hR9 hd] at hu
        rw [if_neg hc, if_neg hc, m_swaps hp (by omega) hP4 h hu (by omega), bnd1_s, m_code hI (hsv _ hsx), bnd1_s, m_swaps hp (by omega) hP4 h hu (by omega), bnd1_s]
        congr 2
        refine SD_congr (fun q hq _ => ?_)
        by_cases eq : q = p + k - 1
        · subst eq; rw [upN_at, upN_ne (by omega), upN_at]
        · rw [upN_ne eq]
          by_cases eq2 : q = p
          · subst eq2; rw [upN_at, upN_at]
          · rw [upN_ne eq2, upN_ne eq, upN_ne eq2]
end
/-! a list of places, all apart -/
theorem len_lt : ∀ (N : Nat) (l : List Nat), l.Nodup → (∀ x, x ∈ l → x < N) → l.length ≤ N
  | 0, l, _, h => by
    cases l with
    | nil => exact Nat.le_refl _
    | cons a l => exact absurd (h a List.mem_cons_self) (Nat.not_lt_zero _)
  | N + 1, l, hn, h => by
    by_cases c : N ∈ l
    · have h1 := len_lt N (l.erase N) (hn.erase N) (fun x hx => by
        have h2 := (hn.mem_erase_iff).mp hx
        have := h x h2.2
        omega)
      rw [List.length_erase_of_mem c] at h1
      omega
    · have h1 := len_lt N l hn (fun x hx => by
        have := h x hx
        have : x ≠ N := fun e => c (e ▸ hx)
        omega)
      omega
def GL (R P : Nat) (S : Nat → Int32) (L : List EN) : Prop := (L.map (cd9 P)).Nodup ∧ ∀ e, e ∈ L → VD R P S e.1
section
variable {S : Nat → Int32} {R P : Nat} {d : Nat → Nat} {L : List EN}
theorem seen_iff {c : Nat} : seenL P L c = true ↔ ∃ e, e ∈ L ∧ cd9 P e = c := by
  unfold seenL
  rw [List.any_eq_true]
  simp only [decide_eq_true_eq]
theorem GL.len (h : GL R P S L) (hR9 : R < 10) (hP4 : P < 5) : L.length ≤ 9 ^ P ∧ L.length ≤ 6561 := by
  have h1 := len_lt (9 ^ P) (L.map (cd9 P)) h.1 (fun x hx => by
    obtain ⟨e, he, rfl⟩ := List.mem_map.mp hx
    exact ((h.2 e he).c9 hR9 hP4).1)
  rw [List.length_map] at h1
  have h2 := pow9 hP4 (b := 9) (by omega)
  exact ⟨h1, by omega⟩
theorem GL.push {e : EN} (h : GL R P S L) (hv : VD R P S e.1) : GL R P S (pushE P L e) := by
  unfold pushE
  by_cases c : seenL P L (cd9 P e) = true
  · rw [if_pos c]; exact h
  · rw [if_neg c]
    refine ⟨?_, fun x hx => ?_⟩
    · rw [List.map_append, List.nodup_append]
      refine ⟨h.1, by simp, fun a ha b hb => ?_⟩
      rw [List.map_cons, List.map_nil, List.mem_singleton] at hb
      subst hb
      intro e2
      obtain ⟨x, hx, rfl⟩ := List.mem_map.mp ha
      exact c (seen_iff.mpr ⟨x, hx, e2⟩)
    · rcases List.mem_append.mp hx with h2 | h2
      · exact h.2 x h2
      · rw [List.mem_singleton.mp h2]; exact hv
theorem GL.room {e : EN} (h : GL R P S L) (hR9 : R < 10) (hP4 : P < 5) (hv : VD R P S e.1) (c : ¬ seenL P L (cd9 P e) = true) : L.length < 9 ^ P ∧ L.length < 6561 := by
  have h1 := (h.push hv).len hR9 hP4
  unfold pushE at h1
  rw [if_neg c, List.length_append, List.length_singleton] at h1
  omega
theorem GL.ex {lo hi i dp : Nat} (h : GL R P S L) (hI : IV R P S) (hd : VD R P S d) : ∀ m, GL R P S (exM S P lo hi d i dp L m)
  | 0 => h
  | m + 1 => by
    have ih := GL.ex (lo := lo) (hi := hi) (i := i) (dp := dp) h hI hd m
    by_cases c : lo ≤ m % 8 ∧ m % 8 < hi
    · cases hs : suc S P d m with
      | none => rw [exM_no (Or.inr hs)]; exact ih
      | some d' => rw [exM_so c hs]; exact ih.push (suc_VD hI hd hs)
    · rw [exM_no (Or.inl c)]; exact ih
/-- the reference's row of places, and how far each is -/
def RA (P : Nat) (L : List EN) (far queue : Nat → Int32) (queued : Int32) : Prop := queued = nn L.length ∧ (∀ j e, L[j]? = some e → queue j = nn (cd9 P e) ∧ far (cd9 P e) = nn e.2.2.2) ∧ ∀ n, n < 9 ^ P → (∀ e, e ∈ L → cd9 P e ≠ n) → far n = -1
theorem RA.seen {far queue : Nat → Int32} {queued : Int32} {e : EN} (hA : RA P L far queue queued) (hG : GL R P S L) (hD : ∀ x, x ∈ L → x.2.2.2 < 2147483648) (hv : VD R P S e.1) (hR9 : R < 10) (hP4 : P < 5) : far (cd9 P e) < 0 ↔ ¬ seenL P L (cd9 P e) = true := by
  constructor
  · intro h c
    obtain ⟨x, hx, e2⟩ := seen_iff.mp c
    obtain ⟨j, hj⟩ := List.getElem?_of_mem hx
    have := (hA.2.1 j x hj).2
    rw [e2] at this
    rw [this] at h
    exact nlt0 (hD x hx) h
  · intro c
    rw [hA.2.2 (cd9 P e) ((hv.c9 hR9 hP4).1) (fun x hx e2 => c (seen_iff.mpr ⟨x, hx, e2⟩))]
    decide
theorem RA.push {far queue : Nat → Int32} {queued : Int32} {e : EN} (hA : RA P L far queue queued) (c : ¬ seenL P L (cd9 P e) = true) : RA P (L ++ [e]) (upd far (cd9 P e) (nn e.2.2.2)) (upd queue L.length (nn (cd9 P e))) (nn (L.length + 1)) := by
  have hne : ∀ x, x ∈ L → cd9 P x ≠ cd9 P e := fun x hx e2 => c (seen_iff.mpr ⟨x, hx, e2⟩)
  refine ⟨by rw [List.length_append, List.length_singleton], fun j x hj => ?_, fun n hn hx => ?_⟩
  · by_cases hl : j < L.length
    · rw [List.getElem?_append_left hl] at hj
      obtain ⟨h1, h2⟩ := hA.2.1 j x hj
      rw [upd_ne (by omega), upd_ne (hne x (List.mem_of_getElem? hj))]
      exact ⟨h1, h2⟩
    · rw [List.getElem?_append_right (by omega)] at hj
      have hj0 : j - L.length = 0 := by
        rcases Nat.eq_zero_or_pos (j - L.length) with h | h
        · exact h
        · rw [List.getElem?_eq_none (by rw [List.length_singleton]; omega)] at hj; cases hj
      rw [hj0] at hj
      obtain rfl : e = x := Option.some.inj hj
      obtain rfl : j = L.length := by omega
      rw [upd_at, upd_at]
      exact ⟨rfl, rfl⟩
  · have h1 := hx e (List.mem_append_right _ (List.mem_singleton.mpr rfl))
    rw [upd_ne (fun h => h1 h.symm)]
    exact hA.2.2 n hn (fun x hx2 => hx x (List.mem_append_left _ hx2))
theorem pushE_mem {e x : EN} (h : x ∈ pushE P L e) : x ∈ L ∨ x = e := by
  unfold pushE at h
  split at h
  · exact Or.inl h
  · rcases List.mem_append.mp h with h | h
    · exact Or.inl h
    · exact Or.inr (List.mem_singleton.mp h)
theorem exM_mem {lo hi i dp : Nat} {x : EN} : ∀ {m : Nat}, x ∈ exM S P lo hi d i dp L m → x ∈ L ∨ x.2.2.2 = dp
  | 0, h => Or.inl h
  | m + 1, h => by
    by_cases c : lo ≤ m % 8 ∧ m % 8 < hi
    · cases hs : suc S P d m with
      | none => rw [exM_no (Or.inr hs)] at h; exact exM_mem h
      | some d' =>
        rw [exM_so c hs] at h
        rcases pushE_mem h with h | h
        · exact exM_mem h
        · exact Or.inr (by rw [h])
    · rw [exM_no (Or.inl c)] at h; exact exM_mem h
end
