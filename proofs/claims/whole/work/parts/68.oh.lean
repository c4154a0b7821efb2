/-! squeeze: rounds of steps, then of passes -/
def sq (S : Nat → Int32) (P lo hi F dp : Nat) (L : List EN) : Nat → List EN
  | 0 => L
  | n + 1 => match (sq S P lo hi F dp L n)[F + n]? with
    | none => sq S P lo hi F dp L n
    | some e => exM S P lo hi e.1 (F + n) dp (sq S P lo hi F dp L n) 32
section
variable {S : Nat → Int32} {R P lo hi F dp n : Nat} {L : List EN}
theorem sq_s {e : EN} (h : (sq S P lo hi F dp L n)[F + n]? = some e) : sq S P lo hi F dp L (n + 1) = exM S P lo hi e.1 (F + n) dp (sq S P lo hi F dp L n) 32 := by
  show (match (sq S P lo hi F dp L n)[F + n]? with
    | none => sq S P lo hi F dp L n
    | some e => exM S P lo hi e.1 (F + n) dp (sq S P lo hi F dp L n) 32) = _
  rw [h]
theorem sq_n (h : (sq S P lo hi F dp L n)[F + n]? = none) : sq S P lo hi F dp L (n + 1) = sq S P lo hi F dp L n := by
  show (match (sq S P lo hi F dp L n)[F + n]? with
    | none => sq S P lo hi F dp L n
    | some e => exM S P lo hi e.1 (F + n) dp (sq S P lo hi F dp L n) 32) = _
  rw [h]
theorem sq_GL (hI : IV R P S) (h : GL R P S L) : ∀ n, GL R P S (sq S P lo hi F dp L n)
  | 0 => h
  | n + 1 => by
    have ih := sq_GL hI h n
    cases h2 : (sq S P lo hi F dp L n)[F + n]? with
    | none => rw [sq_n h2]; exact ih
    | some e => rw [sq_s h2]; exact ih.ex hI (ih.2 e (List.mem_of_getElem? h2)) 32
theorem sq_mem : ∀ (n : Nat) (x : EN), x ∈ sq S P lo hi F dp L n → x ∈ L ∨ x.2.2.2 = dp
  | 0, x, h => Or.inl h
  | n + 1, x, h => by
    cases h2 : (sq S P lo hi F dp L n)[F + n]? with
    | none => rw [sq_n h2] at h; exact sq_mem n x h
    | some e =>
      rw [sq_s h2] at h
      rcases exM_mem h with h3 | h3
      · exact sq_mem n x h3
      · exact Or.inr h3
theorem sq_pre1 : ∃ T, sq S P lo hi F dp L (n + 1) = sq S P lo hi F dp L n ++ T := by
  cases h2 : (sq S P lo hi F dp L n)[F + n]? with
  | none => rw [sq_n h2]; exact ⟨[], by rw [List.append_nil]⟩
  | some e => rw [sq_s h2]; exact exM_pre 32
theorem sq_pre {m : Nat} (h : n ≤ m) : ∃ T, sq S P lo hi F dp L m = sq S P lo hi F dp L n ++ T := by
  induction m with
  | zero => obtain rfl : n = 0 := by omega
            exact ⟨[], by rw [List.append_nil]⟩
  | succ m ih =>
    by_cases e : n = m + 1
    · subst e; exact ⟨[], by rw [List.append_nil]⟩
    · obtain ⟨T, hT⟩ := ih (by omega)
      obtain ⟨T2, hT2⟩ := sq_pre1 (S := S) (P := P) (lo := lo) (hi := hi) (F := F) (dp := dp) (L := L) (n := m)
      rw [hT2, hT, List.append_assoc]
      exact ⟨_, rfl⟩
theorem sq_pre0 (n : Nat) : ∃ T, sq S P lo hi F dp L n = L ++ T := by
  obtain ⟨T, hT⟩ := sq_pre (S := S) (P := P) (lo := lo) (hi := hi) (F := F) (dp := dp) (L := L) (Nat.zero_le n)
  exact ⟨T, hT⟩
theorem sq_fix (h : (sq S P lo hi F dp L n).length ≤ F + n) : ∀ k, sq S P lo hi F dp L (n + k) = sq S P lo hi F dp L n
  | 0 => rfl
  | k + 1 => by
    have ih := sq_fix h k
    have h2 : (sq S P lo hi F dp L (n + k))[F + (n + k)]? = none := by rw [ih]; exact List.getElem?_eq_none_iff.mpr (by omega)
    show sq S P lo hi F dp L (n + k + 1) = _
    rw [sq_n h2, ih]
theorem pre_at {L L' T : List EN} {j : Nat} {x : EN} (h : L' = L ++ T) (hj : L[j]? = some x) : L'[j]? = some x := by
  rw [h, List.getElem?_append_left ((List.getElem?_eq_some_iff.mp hj).1)]; exact hj
theorem pre_bk {L L' T : List EN} {j : Nat} {x : EN} (h : L' = L ++ T) (hl : j < L.length) (hj : L'[j]? = some x) : L[j]? = some x := by
  rw [h, List.getElem?_append_left hl] at hj; exact hj
theorem sq_dep {j : Nat} {x : EN} (hI : IV R P S) (h : GL R P S L) (hj : (sq S P lo hi F dp L n)[j]? = some x) (hl : L.length ≤ j) : x.2.2.2 = dp := by
  rcases sq_mem n x (List.mem_of_getElem? hj) with h1 | h1
  · exfalso
    obtain ⟨i, hii⟩ := List.getElem?_of_mem h1
    obtain ⟨T, hT⟩ := sq_pre0 (S := S) (P := P) (lo := lo) (hi := hi) (F := F) (dp := dp) (L := L) n
    have := (sq_GL hI h n (lo := lo) (hi := hi) (F := F) (dp := dp)).ix (pre_at hT hii) hj rfl
    have := (List.getElem?_eq_some_iff.mp hii).1
    omega
  · exact h1
/-- the rounds: the row of places, and where the next round begins -/
def lvl (S : Nat → Int32) (P : Nat) : Nat → List EN × Nat
  | 0 => ([e0 S], 0)
  | k + 1 => (sq S P 2 8 (lvl S P k).2 (k + 1) (sq S P 0 2 (lvl S P k).2 k (lvl S P k).1 6562) ((sq S P 0 2 (lvl S P k).2 k (lvl S P k).1 6562).length - (lvl S P k).2), (sq S P 0 2 (lvl S P k).2 k (lvl S P k).1 6562).length)
def lA (S : Nat → Int32) (P k : Nat) : List EN := sq S P 0 2 (lvl S P k).2 k (lvl S P k).1 6562
theorem lvl_s {k : Nat} : lvl S P (k + 1) = (sq S P 2 8 (lvl S P k).2 (k + 1) (lA S P k) ((lA S P k).length - (lvl S P k).2), (lA S P k).length) := rfl
theorem lvl_1 {k : Nat} : (lvl S P (k + 1)).1 = sq S P 2 8 (lvl S P k).2 (k + 1) (lA S P k) ((lA S P k).length - (lvl S P k).2) := by rw [lvl_s]
theorem lvl_2 {k : Nat} : (lvl S P (k + 1)).2 = (lA S P k).length := by rw [lvl_s]
def LI (R P : Nat) (S : Nat → Int32) (k : Nat) (L : List EN) (F : Nat) : Prop := GL R P S L ∧ F ≤ L.length ∧ L[0]? = some (e0 S) ∧ (∀ x, x ∈ L → x.2.2.2 ≤ k) ∧ (∀ (j : Nat) (y : EN), F ≤ j → L[j]? = some y → y.2.2.2 = k) ∧ (k ≤ F ∨ F = L.length)
theorem lvl_LI (hI : IV R P S) (hR : 0 < R) : ∀ k, LI R P S k (lvl S P k).1 (lvl S P k).2
  | 0 => ⟨GL0 hI hR, Nat.zero_le _, rfl, fun x hx => by rw [List.mem_singleton.mp hx]; exact Nat.le_refl _, fun j y _ hj => by
      have := List.mem_singleton.mp (List.mem_of_getElem? hj)
      rw [this]; rfl, Or.inl (Nat.le_refl _)⟩
  | k + 1 => by
    obtain ⟨h1, h2, h3, h4, h5, h6⟩ := lvl_LI hI hR k
    have hA : GL R P S (lA S P k) := sq_GL hI h1 _
    obtain ⟨T, hT⟩ := sq_pre0 (S := S) (P := P) (lo := 0) (hi := 2) (F := (lvl S P k).2) (dp := k) (L := (lvl S P k).1) 6562
    have hT' : lA S P k = (lvl S P k).1 ++ T := hT
    obtain ⟨T2, hT2⟩ := sq_pre0 (S := S) (P := P) (lo := 2) (hi := 8) (F := (lvl S P k).2) (dp := k + 1) (L := lA S P k) ((lA S P k).length - (lvl S P k).2)
    have hl1 : (lA S P k).length = (lvl S P k).1.length + T.length := by rw [hT', List.length_append]
    have hT2' : sq S P 2 8 (lvl S P k).2 (k + 1) (lA S P k) ((lA S P k).length - (lvl S P k).2) = lA S P k ++ T2 := hT2
    rw [lvl_s]
    dsimp only
    refine ⟨sq_GL hI hA _, by rw [hT2', List.length_append]; omega, pre_at hT2' (pre_at hT' h3), fun x hx => ?_, fun j y hj hy => sq_dep hI hA hy hj, ?_⟩
    · rcases sq_mem _ x hx with h | h
      · rcases sq_mem _ x h with h | h
        · have := h4 x h; omega
        · omega
      · omega
    · by_cases c : (lvl S P k).2 < (lvl S P k).1.length
      · left
        rcases h6 with h6 | h6 <;> omega
      · right
        have he : (lvl S P k).1.length ≤ (lvl S P k).2 + 0 := by omega
        have h7 : lA S P k = (lvl S P k).1 := by
          have := sq_fix (S := S) (P := P) (lo := 0) (hi := 2) (F := (lvl S P k).2) (dp := k) (L := (lvl S P k).1) (n := 0) he 6562
          rw [Nat.zero_add] at this
          exact this
        rw [h7, show (lvl S P k).1.length - (lvl S P k).2 = 0 by omega]
        rfl
theorem lvl_fix {K : Nat} (h : (lvl S P K).2 = (lvl S P K).1.length) : ∀ j, lvl S P (K + j) = lvl S P K
  | 0 => rfl
  | j + 1 => by
    have ih := lvl_fix h j
    have he : (lvl S P (K + j)).1.length ≤ (lvl S P (K + j)).2 + 0 := by rw [ih]; omega
    have h7 : lA S P (K + j) = (lvl S P (K + j)).1 := by
      have := sq_fix (S := S) (P := P) (lo := 0) (hi := 2) (F := (lvl S P (K + j)).2) (dp := K + j) (L := (lvl S P (K + j)).1) (n := 0) he 6562
      rw [Nat.zero_add] at this
      exact this
    show lvl S P (K + j + 1) = _
    rw [lvl_s, h7, ih, show (lvl S P K).1.length - (lvl S P K).2 = 0 by omega]
    show ((lvl S P K).1, (lvl S P K).1.length) = _
    rw [← h]
theorem lvl_pre {k m : Nat} (h : k ≤ m) : ∃ T, (lvl S P m).1 = (lvl S P k).1 ++ T := by
  induction m with
  | zero => obtain rfl : k = 0 := by omega
            exact ⟨[], by rw [List.append_nil]⟩
  | succ m ih =>
    by_cases e : k = m + 1
    · subst e; exact ⟨[], by rw [List.append_nil]⟩
    · obtain ⟨T, hT⟩ := ih (by omega)
      obtain ⟨T1, hT1⟩ := sq_pre0 (S := S) (P := P) (lo := 0) (hi := 2) (F := (lvl S P m).2) (dp := m) (L := (lvl S P m).1) 6562
      obtain ⟨T2, hT2⟩ := sq_pre0 (S := S) (P := P) (lo := 2) (hi := 8) (F := (lvl S P m).2) (dp := m + 1) (L := lA S P m) ((lA S P m).length - (lvl S P m).2)
      have hT1' : lA S P m = (lvl S P m).1 ++ T1 := hT1
      have hT2' : sq S P 2 8 (lvl S P m).2 (m + 1) (lA S P m) ((lA S P m).length - (lvl S P m).2) = lA S P m ++ T2 := hT2
      rw [lvl_s]
      dsimp only
      rw [hT2', hT1', hT, List.append_assoc, List.append_assoc]
      exact ⟨_, rfl⟩
/-- the reference's round of steps -/
theorem m_sq1 {far queue : Nat → Int32} {queued : Int32} {x : Nat → Nat} (hI : IV R P S) (hG : GL R P S L) (hF : F ≤ L.length) (hx : VD R P S x) (hD : ∀ x, x ∈ L → x.2.2.2 < 10000) (hdp : dp < 10000) (hA : RA P L far queue queued) :
    ∃ n far1 queue1 queued1 y, iter (fun (z : (Nat → Int32) × (Nat → Int32) × (Nat → Int32) × Int32 × Int32) => f12_fillsPasses_B26 (nn dp) z.1 z.2.1 z.2.2.1 z.2.2.2.1 z.2.2.2.2) FUEL (SD P S x, far, queue, queued, nn F) = some (SD P S y, far1, queue1, queued1) ∧ VD R P S y ∧ RA P (sq S P 0 2 F dp L n) far1 queue1 queued1 ∧ (sq S P 0 2 F dp L n).length = F + n := by
  have hR9 := hI.1.1
  have hP4 := hI.1.2.1
  have hF6 := (hG.len hR9 hP4).2
  obtain ⟨⟨s9, f9, q9, u9⟩, e9, n, y, hy, rfl, hA9, hN9⟩ := iter_wfF (B := fun (z : (Nat → Int32) × (Nat → Int32) × (Nat → Int32) × Int32 × Int32) => f12_fillsPasses_B26 (nn dp) z.1 z.2.1 z.2.2.1 z.2.2.2.1 z.2.2.2.2) (s := (SD P S x, far, queue, queued, nn F)) (n := 6562)
    (I := fun m z => ∃ i x, m + (F + i) = 6562 + F ∧ VD R P S x ∧ z.1 = SD P S x ∧ z.2.2.2.2 = nn (F + i) ∧ RA P (sq S P 0 2 F dp L i) z.2.1 z.2.2.1 z.2.2.2.1 ∧ F + i ≤ (sq S P 0 2 F dp L i).length)
    (Po := fun z => ∃ n x, VD R P S x ∧ z.1 = SD P S x ∧ RA P (sq S P 0 2 F dp L n) z.2.1 z.2.2.1 z.2.2.2 ∧ (sq S P 0 2 F dp L n).length = F + n)
    ⟨0, x, by omega, hx, rfl, rfl, hA, hF⟩ (by omega)
    (by
      rintro m ⟨s, far, queue, queued, v⟩ ⟨i, x, hm, hx, rfl, rfl, hA, hi⟩
      dsimp only at hA ⊢
      unfold f12_fillsPasses_B26
      have hG2 : GL R P S (sq S P 0 2 F dp L i) := sq_GL hI hG i
      have hlen := hG2.len hR9 hP4
      rw [hA.1]
      by_cases hil : F + i < (sq S P 0 2 F dp L i).length
      · left
        obtain ⟨e, he⟩ : ∃ e, (sq S P 0 2 F dp L i)[F + i]? = some e := ⟨_, List.getElem?_eq_getElem hil⟩
        have hev := hG2.2 e (List.mem_of_getElem? he)
        have hc9 := hev.c9 hR9 hP4
        have g1 : queue (F + i) = nn (hc 9 e.1 0 P) := (hA.2.1 _ e he).1
        obtain ⟨f1, q1, u1, j1, j2⟩ := m_goesOn (lk := 0) (hk := 1) (lo := 0) (hi := 2) (i := F + i) (dp := dp) (Or.inr (Or.inl ⟨rfl, rfl, rfl, rfl⟩)) hI hev hx hG2 (fun y hy => by
          rcases sq_mem i y hy with h | h
          · have := hD y h; omega
          · omega) (by omega) hA
        rw [hA.1] at j1
        rw [if_neg (nle (by omega) (by omega) (by omega)), nn_nat (show F + i < 2147483648 by omega), if_neg (ng (by omega) (by omega)), g1]
        rw [show f12_goesOnFrom (SD P S x) far queue (nn (sq S P 0 2 F dp L i).length) (nn (hc 9 e.1 0 P)) 0 1 (nn dp) = _ from j1, bnd4_s, lt_df, nn_succ]
        rw [← sq_s he] at j2
        refine ⟨_, m - 1, rfl, by omega, i + 1, e.1, by omega, hev, rfl, rfl, j2, ?_⟩
        obtain ⟨T, hT⟩ := sq_pre1 (S := S) (P := P) (lo := 0) (hi := 2) (F := F) (dp := dp) (L := L) (n := i)
        rw [hT, List.length_append]
        omega
      · right
        rw [if_pos (nleT (by omega) (by omega) (by omega))]
        have : (sq S P 0 2 F dp L i).length = F + i := by omega
        refine ⟨_, rfl, i, x, hx, rfl, ?_, this⟩
        rw [← hA.1]
        exact hA)
  exact ⟨n, f9, q9, u9, y, e9, hy, hA9, hN9⟩
/-- the reference's round of passes -/
theorem m_sq2 {far queue : Nat → Int32} {queued : Int32} {x : Nat → Nat} {T : Nat} (hI : IV R P S) (hG : GL R P S L) (hF : F ≤ T) (hT : T = L.length) (hx : VD R P S x) (hD : ∀ x, x ∈ L → x.2.2.2 < 10000) (hdp : dp < 10000) (hA : RA P L far queue queued) :
    ∃ far1 queue1 queued1 y, iter (fun (z : (Nat → Int32) × (Nat → Int32) × (Nat → Int32) × Int32 × Int32) => f12_fillsPasses_B67 (nn T) (nn dp) z.1 z.2.1 z.2.2.1 z.2.2.2.1 z.2.2.2.2) FUEL (SD P S x, far, queue, queued, nn F) = some (SD P S y, far1, queue1, queued1) ∧ VD R P S y ∧ RA P (sq S P 2 8 F dp L (T - F)) far1 queue1 queued1 := by
  have hR9 := hI.1.1
  have hP4 := hI.1.2.1
  have hF6 := (hG.len hR9 hP4).2
  obtain ⟨⟨s9, f9, q9, u9⟩, e9, y, hy, rfl, hA9⟩ := iter_wfF (B := fun (z : (Nat → Int32) × (Nat → Int32) × (Nat → Int32) × Int32 × Int32) => f12_fillsPasses_B67 (nn T) (nn dp) z.1 z.2.1 z.2.2.1 z.2.2.2.1 z.2.2.2.2) (s := (SD P S x, far, queue, queued, nn F)) (n := T - F)
    (I := fun m z => ∃ i x, m + i = T - F ∧ VD R P S x ∧ z.1 = SD P S x ∧ z.2.2.2.2 = nn (F + i) ∧ RA P (sq S P 2 8 F dp L i) z.2.1 z.2.2.1 z.2.2.2.1)
    (Po := fun z => ∃ x, VD R P S x ∧ z.1 = SD P S x ∧ RA P (sq S P 2 8 F dp L (T - F)) z.2.1 z.2.2.1 z.2.2.2)
    ⟨0, x, rfl, hx, rfl, rfl, hA⟩ (by omega)
    (by
      rintro m ⟨s, far, queue, queued, v⟩ ⟨i, x, hm, hx, rfl, rfl, hA⟩
      dsimp only at hA ⊢
      unfold f12_fillsPasses_B67
      have hG2 : GL R P S (sq S P 2 8 F dp L i) := sq_GL hI hG i
      by_cases hil : F + i < T
      · left
        obtain ⟨T2, hT2⟩ := sq_pre0 (S := S) (P := P) (lo := 2) (hi := 8) (F := F) (dp := dp) (L := L) i
        have hT2' : sq S P 2 8 F dp L i = L ++ T2 := hT2
        obtain ⟨e, he⟩ : ∃ e, (sq S P 2 8 F dp L i)[F + i]? = some e := ⟨_, pre_at hT2' (List.getElem?_eq_getElem (show F + i < L.length by omega))⟩
        have hev := hG2.2 e (List.mem_of_getElem? he)
        have hc9 := hev.c9 hR9 hP4
        have g1 : queue (F + i) = nn (hc 9 e.1 0 P) := (hA.2.1 _ e he).1
        obtain ⟨f1, q1, u1, j1, j2⟩ := m_goesOn (lk := 2) (hk := 4) (lo := 2) (hi := 8) (i := F + i) (dp := dp) (Or.inr (Or.inr ⟨rfl, rfl, rfl, rfl⟩)) hI hev hx hG2 (fun y hy => by
          rcases sq_mem i y hy with h | h
          · have := hD y h; omega
          · omega) (by omega) hA
        rw [if_neg (nle (by omega) (by omega) (by omega)), nn_nat (show F + i < 2147483648 by omega), if_neg (ng (by omega) (by omega)), g1]
        rw [show f12_goesOnFrom (SD P S x) far queue queued (nn (hc 9 e.1 0 P)) 2 4 (nn dp) = _ from j1, bnd4_s, lt_df, nn_succ]
        rw [← sq_s he] at j2
        exact ⟨_, m - 1, rfl, by omega, i + 1, e.1, by omega, hev, rfl, rfl, j2⟩
      · right
        have hi : i = T - F := by omega
        rw [if_pos (nleT (by omega) (by omega) (by omega))]
        exact ⟨_, rfl, x, hx, rfl, by rw [← hi]; exact hA⟩)
  exact ⟨f9, q9, u9, y, e9, hy, hA9⟩
theorem m_fillsPasses {far queue : Nat → Int32} {queued : Int32} (hI : IV R P S) (hR : 0 < R) : ∃ K far1 queue1 queued1, f12_fillsPasses S far queue queued = some (S, far1, queue1, queued1) ∧ RA P (lvl S P K).1 far1 queue1 queued1 ∧ (lvl S P K).2 = (lvl S P K).1.length := by
  have hR9 := hI.1.1
  have hP4 := hI.1.2.1
  obtain ⟨far0, queue0, s1, s2⟩ := m_startsFar (far := far) (queue := queue) (queued := queued) hI hR
  have hq0 : queue0 0 = nn (hc 9 (d0F S) 0 P) := (s2.2.1 0 (e0 S) rfl).1
  obtain ⟨⟨s9, f9, q9, u9⟩, e9, K, x9, hx9, rfl, hA9, hN9⟩ := iter_wfF (B := fun (z : (Nat → Int32) × (Nat → Int32) × (Nat → Int32) × Int32 × Int32 × Int32) => f12_fillsPasses_B15 z.1 z.2.1 z.2.2.1 z.2.2.2.1 z.2.2.2.2.1 z.2.2.2.2.2) (s := (S, far0, queue0, (1 : Int32), (0 : Int32), (0 : Int32))) (n := 6562)
    (I := fun m z => ∃ k x, m + (lvl S P k).2 = 6562 ∧ VD R P S x ∧ z.1 = SD P S x ∧ z.2.2.2.2.1 = nn (lvl S P k).2 ∧ z.2.2.2.2.2 = nn k ∧ RA P (lvl S P k).1 z.2.1 z.2.2.1 z.2.2.2.1 ∧ k ≤ (lvl S P k).2)
    (Po := fun z => ∃ K x, VD R P S x ∧ z.1 = SD P S x ∧ RA P (lvl S P K).1 z.2.1 z.2.2.1 z.2.2.2 ∧ (lvl S P K).2 = (lvl S P K).1.length)
    ⟨0, d0F S, rfl, d0_VD hI hR, (SD_d0 hI).symm, rfl, rfl, s2, Nat.le_refl _⟩ (by omega)
    (by
      rintro m ⟨s, far, queue, queued, v, w⟩ ⟨k, x, hm, hx, rfl, rfl, rfl, hA, hk⟩
      dsimp only at hA ⊢
      unfold f12_fillsPasses_B15
      obtain ⟨h1, h2, h3, h4, h5, h6⟩ := lvl_LI hI hR k
      have hlen := h1.len hR9 hP4
      rw [hA.1]
      by_cases hil : (lvl S P k).2 < (lvl S P k).1.length
      · left
        obtain ⟨n, f1, q1, u1, y, a1, a2, a3, a4⟩ := m_sq1 (dp := k) hI h1 h2 hx (fun y hy => by have := h4 y hy; omega) (by omega) hA
        have hGn : GL R P S (sq S P 0 2 (lvl S P k).2 k (lvl S P k).1 n) := sq_GL hI h1 n
        have hln := hGn.len hR9 hP4
        have hAn : lA S P k = sq S P 0 2 (lvl S P k).2 k (lvl S P k).1 n := by
          have := sq_fix (S := S) (P := P) (lo := 0) (hi := 2) (F := (lvl S P k).2) (dp := k) (L := (lvl S P k).1) (n := n) (by omega) (6562 - n)
          rw [show n + (6562 - n) = 6562 by omega] at this
          exact this
        rw [← hAn] at a3 a4 hGn hln
        obtain ⟨T, hT⟩ := sq_pre0 (S := S) (P := P) (lo := 0) (hi := 2) (F := (lvl S P k).2) (dp := k) (L := (lvl S P k).1) 6562
        have hT' : lA S P k = (lvl S P k).1 ++ T := hT
        have hl1 : (lA S P k).length = (lvl S P k).1.length + T.length := by rw [hT', List.length_append]
        obtain ⟨f2, q2, u2, y2, b1, b2, b3⟩ := m_sq2 (dp := k + 1) (F := (lvl S P k).2) (T := (lA S P k).length) hI hGn (by omega) rfl a2 (fun y hy => by
          rcases sq_mem _ y hy with h | h
          · have := h4 y h; omega
          · omega) (by omega) a3
        rw [hA.1] at a1
        rw [if_neg (nle (by omega) (by omega) (by omega)), a1, bnd4_s, lt_df, nn_succ]
        rw [a3.1] at b1 ⊢
        rw [b1, bnd4_s]
        exact ⟨_, 6562 - (lA S P k).length, rfl, by omega, k + 1, y2, by rw [lvl_2]; omega, b2, rfl, by rw [lvl_2], rfl, by rw [lvl_1]; exact b3, by rw [lvl_2]; omega⟩
      · right
        rw [if_pos (nleT (by omega) (by omega) (by omega))]
        refine ⟨_, rfl, k, x, hx, rfl, ?_, by omega⟩
        rw [← hA.1]
        exact hA)
  refine ⟨K, f9, q9, u9, ?_, hA9, hN9⟩
  have hst := m_standsAs hI (d0_VD hI hR) hx9
  rw [SD_d0 hI] at hst
  unfold f12_fillsPasses
  rw [s1, bnd3_s, lt_df, e9, bnd4_s, hq0, hst, bnd1_s]
end
