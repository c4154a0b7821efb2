/-! the reference's search -/
/-- which kinds of moves: all, steps, passes -/
def KS (lk hk lo hi : Nat) : Prop := (lk = 0 ∧ hk = 4 ∧ lo = 0 ∧ hi = 8) ∨ (lk = 0 ∧ hk = 1 ∧ lo = 0 ∧ hi = 2) ∨ (lk = 2 ∧ hk = 4 ∧ lo = 2 ∧ hi = 8)
section
variable {S : Nat → Int32} {R P : Nat} {d e : Nat → Nat} {L : List EN} {lk hk lo hi i dp : Nat}
theorem ex_next {p k : Nat} (hP4 : P < 5) (hp : p < P) (hk2 : k < P + 1 - p) : exM S P lo hi d i dp L (mvK p (k + 1)) = exM S P lo hi d i dp L (mvK p k + 1) := by
  refine exM_gap' (by unfold mvK; split <;> split <;> omega) (fun q h1 h2 => ?_)
  unfold mvK at h1 h2
  by_cases h : k = 1
  · subst h
    rw [if_pos (by omega)] at h1
    rw [if_neg (by omega)] at h2
    exact Or.inr (suc_q (by omega) (Or.inl (by omega)))
  · exfalso
    split at h1 <;> split at h2 <;> omega
theorem ex_begin {p : Nat} (hK : KS lk hk lo hi) (hP4 : P < 5) (hp : p < P) : exM S P lo hi d i dp L (mvK p lk) = exM S P lo hi d i dp L (8 * p) := by
  refine exM_gap' (by unfold mvK; split <;> omega) (fun q h1 h2 => ?_)
  unfold mvK at h2
  rcases hK with ⟨rfl, rfl, rfl, rfl⟩ | ⟨rfl, rfl, rfl, rfl⟩ | ⟨rfl, rfl, rfl, rfl⟩
  · rw [if_pos (by omega)] at h2; omega
  · rw [if_pos (by omega)] at h2; omega
  · rw [if_neg (by omega)] at h2
    by_cases h : q % 8 < 2
    · exact Or.inl (by omega)
    · exact Or.inr (suc_q h (Or.inl (by omega)))
theorem ex_end {p k : Nat} (hK : KS lk hk lo hi) (hP4 : P < 5) (hp : p < P) (hlk : lk ≤ k) (hk1 : k ≤ hk + 1) (hk2 : k ≤ P + 1 - p) (h : hk < k ∨ P + 1 - p ≤ k) : exM S P lo hi d i dp L (8 * (p + 1)) = exM S P lo hi d i dp L (mvK p k) := by
  have hb : mvK p k ≤ 8 * (p + 1) := by unfold mvK; split <;> omega
  refine exM_gap' hb (fun q h1 h2 => ?_)
  unfold mvK at h1
  by_cases h3 : k < 2
  · rcases hK with ⟨rfl, rfl, rfl, rfl⟩ | ⟨rfl, rfl, rfl, rfl⟩ | ⟨rfl, rfl, rfl, rfl⟩ <;> omega
  · rw [if_neg h3] at h1
    rcases hK with ⟨rfl, rfl, rfl, rfl⟩ | ⟨rfl, rfl, rfl, rfl⟩ | ⟨rfl, rfl, rfl, rfl⟩
    · exact Or.inr (suc_q (by omega) (Or.inr (by omega)))
    · exact Or.inl (by omega)
    · exact Or.inr (suc_q (by omega) (Or.inr (by omega)))
theorem sel_k {p k : Nat} (hK : KS lk hk lo hi) (hP4 : P < 5) (hp : p < P) (hlk : lk ≤ k) (hk1 : k ≤ hk) (hk2 : k < P + 1 - p) : lo ≤ mvK p k % 8 ∧ mvK p k % 8 < hi := by
  rw [(mvK_8 hP4 hp hk2).2]
  rcases hK with ⟨rfl, rfl, rfl, rfl⟩ | ⟨rfl, rfl, rfl, rfl⟩ | ⟨rfl, rfl, rfl, rfl⟩
  · split <;> omega
  · rw [if_pos (by omega)]; omega
  · rw [if_neg (by omega)]; omega
theorem m_kinds {p : Nat} (hP : S 1 = nn P) (hP4 : P < 5) (hp : p < P) : f12_kinds S (nn p) = some (nn (P + 1 - p)) := by
  have e1 : (2 : Int32) + nn P = nn (2 + P) := nn_add 2 P
  have e2 : nn (2 + P) - 1 = nn (2 + P - 1) := nn_sub (a := 2 + P) (b := 1) (by omega)
  unfold f12_kinds
  rw [hP, e1, e2, nn_sub (by omega), lt_df]
  congr 2
  omega
theorem m_goes22 {p : Nat} {far queue : Nat → Int32} {queued : Int32} (hK : KS lk hk lo hi) (hI : IV R P S) (hd : VD R P S d) (hp : p < P) (hG : GL R P S L) (hD : ∀ x, x ∈ L → x.2.2.2 < 2147483648) (hdp : dp < 2147483648) (hA : RA P (exM S P lo hi d i dp L (8 * p)) far queue queued) :
    ∃ far1 queue1 queued1, iter (fun (z : (Nat → Int32) × (Nat → Int32) × (Nat → Int32) × Int32 × Int32) => f12_goesOnFrom_B22 (nn hk) (nn p) (nn dp) z.1 z.2.1 z.2.2.1 z.2.2.2.1 z.2.2.2.2) FUEL (SD P S d, far, queue, queued, nn lk) = some (SD P S d, far1, queue1, queued1) ∧ RA P (exM S P lo hi d i dp L (8 * (p + 1))) far1 queue1 queued1 := by
  have hR9 := hI.1.1
  have hP4 := hI.1.2.1
  have hI2 := IV_SD hI hd
  have hk5 : hk < 5 := by rcases hK with h | h | h <;> omega
  have hlk2 : lk ≤ hk ∧ lk < 3 := by rcases hK with h | h | h <;> omega
  obtain ⟨⟨s9, f9, q9, u9⟩, e9, rfl, hA9⟩ := iter_wfF (B := fun (z : (Nat → Int32) × (Nat → Int32) × (Nat → Int32) × Int32 × Int32) => f12_goesOnFrom_B22 (nn hk) (nn p) (nn dp) z.1 z.2.1 z.2.2.1 z.2.2.2.1 z.2.2.2.2) (s := (SD P S d, far, queue, queued, nn lk)) (n := 20)
    (I := fun m z => ∃ k, m + k = 20 + lk ∧ lk ≤ k ∧ k ≤ hk + 1 ∧ k ≤ P + 1 - p ∧ z.1 = SD P S d ∧ z.2.2.2.2 = nn k ∧ RA P (exM S P lo hi d i dp L (mvK p k)) z.2.1 z.2.2.1 z.2.2.2.1)
    (Po := fun z => z.1 = SD P S d ∧ RA P (exM S P lo hi d i dp L (8 * (p + 1))) z.2.1 z.2.2.1 z.2.2.2)
    ⟨lk, rfl, Nat.le_refl _, by omega, by omega, rfl, rfl, by rw [ex_begin hK hP4 hp]; exact hA⟩ (by omega)
    (by
      rintro m ⟨s, far, queue, queued, v⟩ ⟨k, hm, h1, h2, h3, rfl, rfl, hA⟩
      dsimp only at hA ⊢
      unfold f12_goesOnFrom_B22
      rw [m_kinds hI2.1.2.2.2.1 hP4 hp, bnd1_s]
      by_cases hx : hk < k ∨ P + 1 - p ≤ k
      · right
        have hE : RA P (exM S P lo hi d i dp L (8 * (p + 1))) far queue queued := by rw [ex_end hK hP4 hp h1 h2 h3 hx]; exact hA
        by_cases c1 : hk < k
        · rw [if_pos (nltT (by omega) (by omega) c1)]
          exact ⟨_, rfl, rfl, hE⟩
        · rw [if_neg (nlt (by omega) (by omega) c1), if_pos (nleT (by omega) (by omega) (hx.resolve_left c1))]
          exact ⟨_, rfl, rfl, hE⟩
      · left
        have hkk : k ≤ hk := by omega
        have hkK : k < P + 1 - p := by omega
        have hsel := sel_k hK hP4 hp h1 hkk hkK
        have hGk := hG.ex (lo := lo) (hi := hi) (i := i) (dp := dp) hI hd (mvK p k)
        have hDk : ∀ x, x ∈ exM S P lo hi d i dp L (mvK p k) → x.2.2.2 < 2147483648 := fun x hx => by
          rcases exM_mem hx with h | h
          · exact hD x h
          · omega
        rw [if_neg (nlt (by omega) (by omega) (by omega)), if_neg (nle (by omega) (by omega) (by omega)), m_codeBehind hI hd hp hkK, bnd2_s]
        cases hs : suc S P d (mvK p k) with
        | none =>
          rw [show cdO P none = -1 from rfl, if_pos (by decide), lt_df, nn_succ]
          exact ⟨_, m - 1, rfl, by omega, k + 1, by omega, by omega, by omega, by omega, rfl, rfl, by rw [ex_next hP4 hp hkK, exM_no (Or.inr hs)]; exact hA⟩
        | some d' =>
          have hv := suc_VD hI hd hs
          have hc9 := hv.c9 hR9 hP4
          have hce : cd9 P ((d', i, mvK p k, dp) : EN) = hc 9 d' 0 P := rfl
          have hsn := hA.seen (e := (d', i, mvK p k, dp)) hGk hDk hv hR9 hP4
          rw [hce] at hsn
          rw [show cdO P (some d') = nn (hc 9 d' 0 P) from rfl, if_neg (nlt0 (by omega)), nn_nat (by omega), if_neg (ng (by omega) (by omega))]
          by_cases c : seenL P (exM S P lo hi d i dp L (mvK p k)) (hc 9 d' 0 P) = true
          · rw [if_neg (fun h => (hsn.mp h) c), lt_df, nn_succ]
            refine ⟨_, m - 1, rfl, by omega, k + 1, by omega, by omega, by omega, by omega, rfl, rfl, ?_⟩
            rw [ex_next hP4 hp hkK, exM_so hsel hs]
            unfold pushE
            rw [hce, if_pos c]
            exact hA
          · have hrm := hGk.room (e := (d', i, mvK p k, dp)) hR9 hP4 hv (by rw [hce]; exact c)
            have hpu := hA.push (e := (d', i, mvK p k, dp)) (by rw [hce]; exact c)
            rw [hce] at hpu
            rw [if_pos (hsn.mpr c), hA.1, nn_nat (show (exM S P lo hi d i dp L (mvK p k)).length < 2147483648 by omega), if_neg (ng (by omega) (by omega)), lt_df, if_neg (ng (by omega) (by omega)), lt_df, lt_df, lt_df, nn_succ, nn_succ]
            refine ⟨_, m - 1, rfl, by omega, k + 1, by omega, by omega, by omega, by omega, rfl, rfl, ?_⟩
            rw [ex_next hP4 hp hkK, exM_so hsel hs]
            unfold pushE
            rw [hce, if_neg c]
            exact hpu)
  exact ⟨f9, q9, u9, e9, hA9⟩
theorem m_goesOn {far queue : Nat → Int32} {queued : Int32} (hK : KS lk hk lo hi) (hI : IV R P S) (hd : VD R P S d) (he : VD R P S e) (hG : GL R P S L) (hD : ∀ x, x ∈ L → x.2.2.2 < 2147483648) (hdp : dp < 2147483648) (hA : RA P L far queue queued) :
    ∃ far1 queue1 queued1, f12_goesOnFrom (SD P S e) far queue queued (nn (hc 9 d 0 P)) (nn lk) (nn hk) (nn dp) = some (SD P S d, far1, queue1, queued1) ∧ RA P (exM S P lo hi d i dp L 32) far1 queue1 queued1 := by
  have hP4 := hI.1.2.1
  have hI2 := IV_SD hI hd
  obtain ⟨⟨s9, f9, q9, u9⟩, e9, rfl, hA9⟩ := iter_wfF (B := fun (z : (Nat → Int32) × (Nat → Int32) × (Nat → Int32) × Int32 × Int32) => f12_goesOnFrom_B8 (nn hk) (nn dp) (nn lk) z.1 z.2.1 z.2.2.1 z.2.2.2.1 z.2.2.2.2) (s := (SD P S d, far, queue, queued, (0 : Int32))) (n := P)
    (I := fun m z => ∃ p, m + p = P ∧ z.1 = SD P S d ∧ z.2.2.2.2 = nn p ∧ RA P (exM S P lo hi d i dp L (8 * p)) z.2.1 z.2.2.1 z.2.2.2.1)
    (Po := fun z => z.1 = SD P S d ∧ RA P (exM S P lo hi d i dp L (8 * P)) z.2.1 z.2.2.1 z.2.2.2)
    ⟨0, rfl, rfl, rfl, hA⟩ (by omega)
    (by
      rintro m ⟨s, far, queue, queued, v⟩ ⟨p, hm, rfl, rfl, hA⟩
      dsimp only at hA ⊢
      unfold f12_goesOnFrom_B8
      by_cases hp : p < P
      · left
        obtain ⟨f1, q1, u1, j1, j2⟩ := m_goes22 hK hI hd hp hG hD hdp hA
        rw [if_neg (show ¬ SD P S d 1 ≤ nn p by rw [hI2.1.2.2.2.1]; exact nle (by omega) (by omega) (by omega)), j1, bnd4_s, lt_df, nn_succ]
        exact ⟨_, m - 1, rfl, by omega, p + 1, by omega, rfl, rfl, j2⟩
      · right
        obtain rfl : p = P := by omega
        rw [if_pos (show SD p S d 1 ≤ nn p by rw [hI2.1.2.2.2.1]; exact Int32.le_refl _)]
        exact ⟨_, rfl, rfl, hA⟩)
  refine ⟨f9, q9, u9, ?_, ?_⟩
  · unfold f12_goesOnFrom
    rw [m_standsAs hI hd he, bnd1_s, e9, bnd4_s]
  · rw [exM_gap' (m := 8 * P) (by omega) (fun q h1 h2 => Or.inr (suc_far (by omega)))]
    exact hA9
def e0 (S : Nat → Int32) : EN := (d0F S, 0, 0, 0)
theorem GL0 (hI : IV R P S) (hR : 0 < R) : GL R P S [e0 S] := by
  refine ⟨by simp, fun e he => ?_⟩
  rw [List.mem_singleton.mp he]
  exact d0_VD hI hR
theorem m_startsFar {far queue : Nat → Int32} {queued : Int32} (hI : IV R P S) (hR : 0 < R) : ∃ far1 queue1, f12_startsFar S far queue queued = some (far1, queue1, 1) ∧ RA P [e0 S] far1 queue1 1 := by
  have hR9 := hI.1.1
  have hP4 := hI.1.2.1
  have hv := d0_VD hI hR
  have hc9 := hv.c9 hR9 hP4
  have hp9 := pow9 hP4 (b := 9) (by omega)
  have hcode : f12_code S = some (nn (hc 9 (d0F S) 0 P)) := by
    have := m_code hI hv
    rw [SD_d0 hI] at this
    exact this
  refine ⟨upd (ov (9 ^ P) (fun _ => -1) far) (hc 9 (d0F S) 0 P) 0, upd queue 0 (nn (hc 9 (d0F S) 0 P)), ?_, rfl, fun j x hj => ?_, fun n hn hx => ?_⟩
  · unfold f12_startsFar
    rw [iter_for (s := (far, (0 : Int32))) (st := fun k => (ov k (fun _ => -1) far, nn k)) (n := 9 ^ P) (out := ov (9 ^ P) (fun _ => -1) far) (by rw [ov_0]; rfl) (by omega) ?hs ?he]
    · rw [bnd1_s, hcode, bnd1_s, lt_df, upd_at, nn_nat (by omega), if_neg (ng (by omega) (by omega)), lt_df]
    case hs =>
      intro k hk
      unfold f12_startsFar_B2
      dsimp only
      rw [m_states hI.1.2.2.2.1 hP4, bnd1_s, if_neg (nle (by omega) (by omega) (by omega)), nn_nat (by omega), if_neg (ng (by omega) (by omega)), lt_df, lt_df, nn_succ]
      have := ov_upd (k := k) (f := fun _ => (-1 : Int32)) (g := far)
      rw [this]
    case he =>
      unfold f12_startsFar_B2
      dsimp only
      rw [m_states hI.1.2.2.2.1 hP4, bnd1_s, if_pos (Int32.le_refl _)]
  · cases j with
    | zero =>
      obtain rfl : e0 S = x := Option.some.inj hj
      exact ⟨upd_at, upd_at⟩
    | succ j => cases hj
  · have h1 : hc 9 (d0F S) 0 P ≠ n := hx (e0 S) (List.mem_singleton.mpr rfl)
    rw [upd_ne (fun h => h1 h.symm)]
    exact if_pos hn
/-- the search for moves, place by place -/
def bf (S : Nat → Int32) (P : Nat) : Nat → List EN
  | 0 => [e0 S]
  | i + 1 => match (bf S P i)[i]? with
    | none => bf S P i
    | some e => exM S P 0 8 e.1 i (e.2.2.2 + 1) (bf S P i) 32
theorem bf_s {e : EN} (h : (bf S P i)[i]? = some e) : bf S P (i + 1) = exM S P 0 8 e.1 i (e.2.2.2 + 1) (bf S P i) 32 := by
  show (match (bf S P i)[i]? with
    | none => bf S P i
    | some e => exM S P 0 8 e.1 i (e.2.2.2 + 1) (bf S P i) 32) = _
  rw [h]
theorem bf_n (h : (bf S P i)[i]? = none) : bf S P (i + 1) = bf S P i := by
  show (match (bf S P i)[i]? with
    | none => bf S P i
    | some e => exM S P 0 8 e.1 i (e.2.2.2 + 1) (bf S P i) 32) = _
  rw [h]
theorem bf_GL (hI : IV R P S) (hR : 0 < R) : ∀ i, GL R P S (bf S P i)
  | 0 => GL0 hI hR
  | i + 1 => by
    have ih := bf_GL hI hR i
    cases h : (bf S P i)[i]? with
    | none => rw [bf_n h]; exact ih
    | some e => rw [bf_s h]; exact ih.ex hI (ih.2 e (List.mem_of_getElem? h)) 32
theorem bf_dep : ∀ (i : Nat) (x : EN), x ∈ bf S P i → x.2.2.2 ≤ i
  | 0, x, h => by rw [List.mem_singleton.mp h]; exact Nat.le_refl _
  | i + 1, x, h => by
    cases h2 : (bf S P i)[i]? with
    | none => rw [bf_n h2] at h; have := bf_dep i x h; omega
    | some e =>
      rw [bf_s h2] at h
      rcases exM_mem h with h3 | h3
      · have := bf_dep i x h3; omega
      · have := bf_dep i e (List.mem_of_getElem? h2); omega
theorem pushE_pre {e : EN} : ∃ T, pushE P L e = L ++ T := by
  unfold pushE
  split
  · exact ⟨[], by rw [List.append_nil]⟩
  · exact ⟨[e], rfl⟩
theorem exM_pre : ∀ m, ∃ T, exM S P lo hi d i dp L m = L ++ T
  | 0 => ⟨[], by rw [List.append_nil]; rfl⟩
  | m + 1 => by
    obtain ⟨T, hT⟩ := exM_pre m
    by_cases c : lo ≤ m % 8 ∧ m % 8 < hi
    · cases hs : suc S P d m with
      | none => rw [exM_no (Or.inr hs)]; exact ⟨T, hT⟩
      | some d' =>
        obtain ⟨T2, hT2⟩ := pushE_pre (P := P) (L := exM S P lo hi d i dp L m) (e := (d', i, m, dp))
        rw [exM_so c hs, hT2, hT, List.append_assoc]
        exact ⟨_, rfl⟩
    · rw [exM_no (Or.inl c)]; exact ⟨T, hT⟩
theorem bf_pre {i j : Nat} (h : i ≤ j) : ∃ T, bf S P j = bf S P i ++ T := by
  induction j with
  | zero => obtain rfl : i = 0 := by omega
            exact ⟨[], by rw [List.append_nil]⟩
  | succ j ih =>
    by_cases e : i = j + 1
    · subst e; exact ⟨[], by rw [List.append_nil]⟩
    · obtain ⟨T, hT⟩ := ih (by omega)
      cases h2 : (bf S P j)[j]? with
      | none => rw [bf_n h2]; exact ⟨T, hT⟩
      | some e =>
        obtain ⟨T2, hT2⟩ := exM_pre (S := S) (P := P) (lo := 0) (hi := 8) (d := e.1) (i := j) (dp := e.2.2.2 + 1) (L := bf S P j) 32
        rw [bf_s h2, hT2, hT, List.append_assoc]
        exact ⟨_, rfl⟩
theorem bf_at {i j k : Nat} {x : EN} (h : i ≤ j) (hk : (bf S P i)[k]? = some x) : (bf S P j)[k]? = some x := by
  obtain ⟨T, hT⟩ := bf_pre (S := S) (P := P) h
  rw [hT, List.getElem?_append_left ((List.getElem?_eq_some_iff.mp hk).1)]
  exact hk
/-- its end -/
theorem m_fillsMoves {far queue : Nat → Int32} {queued : Int32} (hI : IV R P S) (hR : 0 < R) : ∃ N far1 queue1 queued1, f12_fillsMoves S far queue queued = some (S, far1, queue1, queued1) ∧ RA P (bf S P N) far1 queue1 queued1 ∧ (bf S P N).length = N := by
  have hR9 := hI.1.1
  have hP4 := hI.1.2.1
  obtain ⟨far0, queue0, s1, s2⟩ := m_startsFar (far := far) (queue := queue) (queued := queued) hI hR
  have hq0 : queue0 0 = nn (hc 9 (d0F S) 0 P) := (s2.2.1 0 (e0 S) rfl).1
  obtain ⟨⟨s9, f9, q9, u9⟩, e9, N, x9, hx9, rfl, hA9, hN9⟩ := iter_wfF (B := fun (z : (Nat → Int32) × (Nat → Int32) × (Nat → Int32) × Int32 × Int32) => f12_fillsMoves_B13 z.1 z.2.1 z.2.2.1 z.2.2.2.1 z.2.2.2.2) (s := (S, far0, queue0, (1 : Int32), (0 : Int32))) (n := 6562)
    (I := fun m z => ∃ i x, m + i = 6562 ∧ VD R P S x ∧ z.1 = SD P S x ∧ z.2.2.2.2 = nn i ∧ RA P (bf S P i) z.2.1 z.2.2.1 z.2.2.2.1 ∧ i ≤ (bf S P i).length)
    (Po := fun z => ∃ N x, VD R P S x ∧ z.1 = SD P S x ∧ RA P (bf S P N) z.2.1 z.2.2.1 z.2.2.2 ∧ (bf S P N).length = N)
    ⟨0, d0F S, rfl, d0_VD hI hR, (SD_d0 hI).symm, rfl, s2, Nat.zero_le _⟩ (by omega)
    (by
      rintro m ⟨s, far, queue, queued, v⟩ ⟨i, x, hm, hx, rfl, rfl, hA, hi⟩
      dsimp only at hA ⊢
      unfold f12_fillsMoves_B13
      have hG := bf_GL hI hR i
      have hlen := hG.len hR9 hP4
      rw [hA.1]
      by_cases hil : i < (bf S P i).length
      · left
        obtain ⟨e, he⟩ : ∃ e, (bf S P i)[i]? = some e := ⟨_, List.getElem?_eq_getElem hil⟩
        have hev := hG.2 e (List.mem_of_getElem? he)
        have hc9 := hev.c9 hR9 hP4
        have hce : cd9 P e = hc 9 e.1 0 P := rfl
        obtain ⟨g1, g2⟩ := hA.2.1 i e he
        rw [hce] at g1 g2
        have hdep := bf_dep i e (List.mem_of_getElem? he)
        obtain ⟨f1, q1, u1, j1, j2⟩ := m_goesOn (lk := 0) (hk := 4) (lo := 0) (hi := 8) (i := i) (dp := e.2.2.2 + 1) (Or.inl ⟨rfl, rfl, rfl, rfl⟩) hI hev hx hG (fun y hy => by have := bf_dep i y hy; omega) (by omega) hA
        rw [hA.1] at j1
        rw [if_neg (nle (by omega) (by omega) (by omega)), nn_nat (show i < 2147483648 by omega), if_neg (ng (by omega) (by omega)), if_neg (ng (by omega) (by omega)), g1, nn_nat (show hc 9 e.1 0 P < 2147483648 by omega), if_neg (ng (by omega) (by omega)), lt_df, g2, nn_succ]
        rw [show f12_goesOnFrom (SD P S x) far queue (nn (bf S P i).length) (nn (hc 9 e.1 0 P)) 0 4 (nn (e.2.2.2 + 1)) = _ from j1, bnd4_s, lt_df, nn_succ]
        rw [← bf_s he] at j2
        refine ⟨_, m - 1, rfl, by omega, i + 1, e.1, by omega, hev, rfl, rfl, j2, ?_⟩
        obtain ⟨T, hT⟩ := bf_pre (S := S) (P := P) (show i ≤ i + 1 by omega)
        rw [hT, List.length_append]
        omega
      · right
        rw [if_pos (nleT (by omega) (by omega) (by omega))]
        have : (bf S P i).length = i := by omega
        refine ⟨_, rfl, i, x, hx, rfl, ?_, this⟩
        rw [← hA.1]
        exact hA)
  refine ⟨N, f9, q9, u9, ?_, hA9, hN9⟩
  have hst := m_standsAs hI (d0_VD hI hR) hx9
  rw [SD_d0 hI] at hst
  unfold f12_fillsMoves
  rw [s1, bnd3_s, lt_df, e9, bnd4_s, hq0, hst, bnd1_s]
/-- the first place in the row that is a goal -/
theorem m_goalFar {set : Int32} {far queue : Nat → Int32} {queued : Int32} (hI : IV R P S) (hR : 0 < R) (hG : GL R P S L) (h0 : L[0]? = some (e0 S)) (hD : ∀ x, x ∈ L → x.2.2.2 < 2147483648) (hA : RA P L far queue queued) :
    (∃ (g : Nat) (e : EN), L[g]? = some e ∧ glF S set e.1 P = true ∧ (∀ (j : Nat) (x : EN), j < g → L[j]? = some x → glF S set x.1 P = false) ∧ f12_goalFar S far queue queued set = some (nn e.2.2.2, S)) ∨ ((∀ x, x ∈ L → glF S set x.1 P = false) ∧ f12_goalFar S far queue queued set = some (-1, S)) := by
  have hR9 := hI.1.1
  have hP4 := hI.1.2.1
  have hlen := hG.len hR9 hP4
  have hq0 : queue 0 = nn (hc 9 (d0F S) 0 P) := (hA.2.1 0 (e0 S) h0).1
  obtain ⟨⟨s9, v9⟩, e9, x9, hx9, rfl, hP9⟩ := iter_wfF (B := fun (z : (Nat → Int32) × Int32 × Int32) => f12_goalFar_B12 queued queue set far z.1 z.2.1 z.2.2) (s := (S, (-1 : Int32), (0 : Int32))) (n := 6562)
    (I := fun m z => ∃ i x, m + i = 6562 ∧ VD R P S x ∧ z.1 = SD P S x ∧ z.2.2 = nn i ∧ i ≤ L.length ∧ ((z.2.1 = -1 ∧ ∀ (j : Nat) (y : EN), j < i → L[j]? = some y → glF S set y.1 P = false) ∨ ∃ (g : Nat) (e : EN), L[g]? = some e ∧ glF S set e.1 P = true ∧ (∀ (j : Nat) (x : EN), j < g → L[j]? = some x → glF S set x.1 P = false) ∧ z.2.1 = nn e.2.2.2))
    (Po := fun z => ∃ x, VD R P S x ∧ z.1 = SD P S x ∧ ((z.2 = -1 ∧ ∀ (j : Nat) (y : EN), j < L.length → L[j]? = some y → glF S set y.1 P = false) ∨ ∃ (g : Nat) (e : EN), L[g]? = some e ∧ glF S set e.1 P = true ∧ (∀ (j : Nat) (x : EN), j < g → L[j]? = some x → glF S set x.1 P = false) ∧ z.2 = nn e.2.2.2))
    ⟨0, d0F S, rfl, d0_VD hI hR, (SD_d0 hI).symm, rfl, Nat.zero_le _, Or.inl ⟨rfl, fun j y hj => absurd hj (Nat.not_lt_zero _)⟩⟩ (by omega)
    (by
      rintro m ⟨s, v, c⟩ ⟨i, x, hm, hx, rfl, rfl, hi, hz⟩
      dsimp only at hz ⊢
      unfold f12_goalFar_B12
      rw [hA.1]
      rcases hz with ⟨rfl, hz⟩ | ⟨g, e, k1, k2, k3, rfl⟩
      · by_cases hil : i < L.length
        · left
          obtain ⟨e, he⟩ : ∃ e, L[i]? = some e := ⟨_, List.getElem?_eq_getElem hil⟩
          have hev := hG.2 e (List.mem_of_getElem? he)
          have hc9 := hev.c9 hR9 hP4
          have hce : cd9 P e = hc 9 e.1 0 P := rfl
          obtain ⟨g1, g2⟩ := hA.2.1 i e he
          rw [hce] at g1 g2
          rw [if_neg (nle (by omega) (by omega) (by omega)), if_neg (show ¬ (0 : Int32) ≤ -1 by decide), nn_nat (show i < 2147483648 by omega), if_neg (ng (by omega) (by omega)), g1, m_standsAs hI hev hx, bnd1_s, m_isGoal hI hev, bnd1_s]
          by_cases hg : glF S set e.1 P = true
          · rw [if_pos hg, if_neg (show ¬ (1 : Int32) = 0 by decide), if_neg (ng (by omega) (by omega)), nn_nat (show hc 9 e.1 0 P < 2147483648 by omega), if_neg (ng (by omega) (by omega)), lt_df, lt_df, nn_succ, g2]
            exact ⟨_, m - 1, rfl, by omega, i + 1, e.1, by omega, hev, rfl, rfl, by omega, Or.inr ⟨i, e, he, hg, hz, rfl⟩⟩
          · rw [if_neg hg, if_pos rfl, lt_df, nn_succ]
            refine ⟨_, m - 1, rfl, by omega, i + 1, e.1, by omega, hev, rfl, rfl, by omega, Or.inl ⟨rfl, fun j y hj hy => ?_⟩⟩
            by_cases e2 : j = i
            · subst e2
              rw [he] at hy
              obtain rfl := Option.some.inj hy
              exact Bool.eq_false_iff.mpr hg
            · exact hz j y (by omega) hy
        · right
          obtain rfl : i = L.length := by omega
          rw [if_pos (Int32.le_refl _)]
          exact ⟨_, rfl, x, hx, rfl, Or.inl ⟨rfl, hz⟩⟩
      · right
        have hd := hD e (List.mem_of_getElem? k1)
        refine ⟨(SD P S x, nn e.2.2.2), ?_, x, hx, rfl, Or.inr ⟨g, e, k1, k2, k3, rfl⟩⟩
        by_cases hil : i < L.length
        · rw [if_neg (nle (by omega) (by omega) (by omega)), if_pos (n0le hd)]
        · rw [if_pos (nleT (by omega) (by omega) (by omega))])
  have hst := m_standsAs hI (d0_VD hI hR) hx9
  rw [SD_d0 hI] at hst
  unfold f12_goalFar
  rw [lt_df, e9, bnd2_s, hq0, hst, bnd1_s]
  dsimp only at hP9
  rcases hP9 with ⟨rfl, h⟩ | ⟨g, e, k1, k2, k3, rfl⟩
  · refine Or.inr ⟨fun x hx => ?_, rfl⟩
    obtain ⟨j, hj⟩ := List.getElem?_of_mem hx
    exact h j x ((List.getElem?_eq_some_iff.mp hj).1) hj
  · exact Or.inl ⟨g, e, k1, k2, k3, rfl⟩
end
