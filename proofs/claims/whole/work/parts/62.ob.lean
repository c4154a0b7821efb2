/-! the class's search: passes, unfolding, the begin -/
section
variable {S : Nat → Int32} {R P : Nat} {d e : Nat → Nat} {L : List EN} {lo hi i dp : Nat}
/-- may two pass each other, as the class sees it -/
theorem c_beside2 {p q : Nat} (hI : IV R P S) (hd : VD R P S d) (hp : p < P) (hq : q < P) (hu : ¬ S (46 + 4 * p) < 0) (huq : ¬ S (46 + 4 * q) < 0) : (¬ cpV (SD P S d) p q = 0) ↔ (sBes S (nn (d p)) 1 = nn (d q) ∨ sBes S (nn (d p)) (-1) = nn (d q)) := by
  have hR9 := hI.1.1
  have hR := hI.1.2.2.1
  obtain ⟨g1, -, g3⟩ := hd p hp
  obtain ⟨k1, -, k3⟩ := hd q hq
  unfold cpV
  rw [SD_u hp hu, SD_u hq huq, if_neg (nlt0 (by omega)), if_neg (nlt0 (by omega)), sBes_SD hR hR9, sBes_SD hR hR9, sBes_updown hR hR9 g1 k1 (g3 hu) (k3 huq)]
  by_cases h1 : sBes S (nn (d p)) 1 = nn (d q)
  · rw [if_pos h1]
    exact ⟨fun _ => Or.inl h1, fun _ => by decide⟩
  · rw [if_neg h1]
    by_cases h2 : sBes S (nn (d q)) 1 = nn (d p)
    · rw [if_pos h2]
      exact ⟨fun _ => Or.inr h2, fun _ => by decide⟩
    · rw [if_neg h2]
      exact ⟨fun h => absurd rfl h, fun h => by rcases h with h | h <;> contradiction⟩
theorem c_tryPasses {p : Nat} {from_ queue : Nat → Int32} {tail rungs people hour broken : Int32} {digit rung crowd above below room strength weight told wrung grip want slips worn : Nat → Int32} {pe : EN} (hI : IV R P S) (hW : RWd S hour broken wrung grip want slips worn) (hL : RLd R P S rungs people room strength weight told) (hG : GL R P S L) (hd : VD R P S d) (hp : p < P) (hlo : lo ≤ 2) (hhi : hi = 8)
    (hA : CA R P (exM S P lo hi d i dp L (8 * p + 2)) from_ queue tail) (h0 : L[i]? = some pe) (hpe : pe.1 = d) (hKP : KP R P S d rung crowd) (hKB : KB R P S digit above below) :
    ∃ f1 q1 t1, f4_tryPasses 6561 from_ 6561 queue tail digit rung above below wrung people (nn (cdR R P pe)) (nn p) = some (f1, q1, t1) ∧ CA R P (exM S P lo hi d i dp L (8 * (p + 1))) f1 q1 t1 := by
  have hR9 := hI.1.1
  have hP4 := hI.1.2.1
  have hdp := (hd p hp).1
  unfold f4_tryPasses
  rw [c_fall hI hW hp, bnd1_s]
  by_cases h : S (46 + 4 * p) < 0
  · rw [ex_fall h (show 8 * p ≤ 8 * p + 2 by omega) (by omega)] at hA
    rw [if_pos h, if_neg (show ¬ (1 : Int32) = 0 by decide), ex_fall h (by omega) (by omega)]
    exact ⟨_, _, _, rfl, hA⟩
  · have hbeg : exM S P lo hi d i dp L (8 * p + 2 + (p + 1)) = exM S P lo hi d i dp L (8 * p + 2) :=
      exM_gap' (by omega) (fun q h1 h2 => Or.inr (suc_q (by omega) (Or.inl (by omega))))
    have hend : exM S P lo hi d i dp L (8 * (p + 1)) = exM S P lo hi d i dp L (8 * p + 2 + P) :=
      exM_gap' (by omega) (fun q h1 h2 => Or.inr (suc_q (by omega) (Or.inr (by omega))))
    obtain ⟨⟨f9, q9, t9⟩, e9, hA9⟩ := iter_wfF (B := fun (z : (Nat → Int32) × (Nat → Int32) × Int32 × Int32) => f4_tryPasses_B16 people (nn p) rung above wrung digit (nn (cdR R P pe)) 6561 6561 below z.1 z.2.1 z.2.2.1 z.2.2.2) (s := (from_, queue, tail, nn (p + 1))) (n := P - (p + 1))
      (I := fun m z => ∃ q, m + q = P ∧ p < q ∧ z.2.2.2 = nn q ∧ CA R P (exM S P lo hi d i dp L (8 * p + 2 + q)) z.1 z.2.1 z.2.2.1)
      (Po := fun z => CA R P (exM S P lo hi d i dp L (8 * p + 2 + P)) z.1 z.2.1 z.2.2)
      ⟨p + 1, by omega, by omega, rfl, by rw [hbeg]; exact hA⟩ (by omega)
      (by
        rintro m ⟨f, qu, t, v⟩ ⟨q, hm, hpq, rfl, hA⟩
        dsimp only at hA ⊢
        unfold f4_tryPasses_B16
        rw [hL.2.1]
        by_cases hqP : q < P
        · left
          have hdq := (hd q hqP).1
          have hm8 : (8 * p + 2 + q) / 8 = p ∧ (8 * p + 2 + q) % 8 = q + 2 := by omega
          have hcp : ¬ (nn p < 0 ∨ 4 ≤ p) := ng (by omega) (by omega)
          have hcq : ¬ (nn q < 0 ∨ 4 ≤ q) := ng (by omega) (by omega)
          have hcd : ¬ (nn (d p) < 0 ∨ 9 ≤ d p) := ng (by omega) (by omega)
          have hb := hKB.2 (d p) hdp
          have hsx : suc S P d (8 * p + 2 + q) = if cpV (SD P S d) p q = 0 then none else some (upN (upN d p (d q)) q (d p)) := by
            unfold suc
            rw [hm8.1, hm8.2, if_neg (by omega), if_neg h, if_neg (by omega), show q + 2 - 2 = q by omega, if_neg (by omega)]
          have hsel : lo ≤ (8 * p + 2 + q) % 8 ∧ (8 * p + 2 + q) % 8 < hi := by omega
          have hno : suc S P d (8 * p + 2 + q) = none → CA R P (exM S P lo hi d i dp L (8 * p + 2 + (q + 1))) f qu t := fun hs => by
            rw [show 8 * p + 2 + (q + 1) = 8 * p + 2 + q + 1 by omega, exM_no (Or.inr hs)]; exact hA
          have j0 : f4_tryPasses_J75 wrung (nn p) rung digit (nn (cdR R P pe)) 6561 6561 f qu t (nn q) 0 = some (.inl (f, qu, t, nn (q + 1))) := by
            unfold f4_tryPasses_J75
            rw [if_pos rfl, lt_df, nn_succ]
          have j1 : (cpV (SD P S d) p q ≠ 0 ∨ S (46 + 4 * q) < 0) → ∃ f1 q1 t1, f4_tryPasses_J75 wrung (nn p) rung digit (nn (cdR R P pe)) 6561 6561 f qu t (nn q) 1 = some (.inl (f1, q1, t1, nn (q + 1))) ∧ CA R P (exM S P lo hi d i dp L (8 * p + 2 + (q + 1))) f1 q1 t1 := by
            intro hor
            unfold f4_tryPasses_J75
            rw [if_neg (show ¬ (1 : Int32) = 0 by decide), c_fall hI hW hqP, bnd1_s]
            by_cases hq0 : S (46 + 4 * q) < 0
            · have : cpV (SD P S d) p q = 0 := by
                unfold cpV
                rw [SD_f hq0, if_pos hq0]
                split <;> rfl
              rw [if_pos this] at hsx
              rw [if_pos hq0, if_neg (show ¬ (1 : Int32) = 0 by decide), lt_df, nn_succ]
              exact ⟨_, _, _, rfl, hno hsx⟩
            · have hcv := hor.resolve_right hq0
              rw [if_neg hcv] at hsx
              have hv := suc_VD hI hd hsx
              have hGx := hG.ex (lo := lo) (hi := hi) (i := i) (dp := dp) hI hd (8 * p + 2 + q)
              obtain ⟨T, hT⟩ := exM_pre (S := S) (P := P) (lo := lo) (hi := hi) (d := d) (i := i) (dp := dp) (L := L) (8 * p + 2 + q)
              have hx0 : (exM S P lo hi d i dp L (8 * p + 2 + q))[i]? = some pe := by
                rw [hT, List.getElem?_append_left ((List.getElem?_eq_some_iff.mp h0).1)]; exact h0
              have hlen : 0 < (exM S P lo hi d i dp L (8 * p + 2 + q)).length := by
                have := (List.getElem?_eq_some_iff.mp hx0).1; omega
              obtain ⟨f1, q1, t1, j1, j2⟩ := c_comeTo (x := (upN (upN d p (d q)) q (d p), i, 8 * p + 2 + q, dp)) hA hGx hv hR9 hP4 hlen (show 8 * p + 2 + q < 32 by omega) hx0
              have hpl : nn (cdR R P pe) + (nn (d q) - nn (d p)) * (nn (R ^ p) - nn (R ^ q)) = nn (cdR R P ((upN (upN d p (d q)) q (d p), i, 8 * p + 2 + q, dp) : EN)) := by
                have := hc_swap (b := R) (x := d q) (y := d p) (d := d) (Nat.zero_le p) (show p < 0 + P by omega) (Nat.zero_le q) (show q < 0 + P by omega) (by omega)
                rw [Nat.sub_zero, Nat.sub_zero] at this
                refine place_pass ?_
                show hc R (upN (upN d p (d q)) q (d p)) 0 P + d p * R ^ p + d q * R ^ q = hc R pe.1 0 P + d q * R ^ p + d p * R ^ q
                rw [hpe]; exact this
              have hhow : nn (cdR R P pe) * 64 + nn p * 8 + 2 + nn q = nn (cdR R P pe * 64 + (8 * p + 2 + q)) := by
                rw [show (64 : Int32) = nn 64 from rfl, show (8 : Int32) = nn 8 from rfl, show (2 : Int32) = nn 2 from rfl, nn_mul, nn_mul, nn_add, nn_add, nn_add]
                congr 1
                omega
              rw [if_neg hq0, if_pos rfl, nn_nat (show q < 2147483648 by omega), if_neg hcq, nn_nat (show p < 2147483648 by omega), if_neg hcp, lt_df, if_neg hcp, if_neg hcq, lt_df, hKP.1 p hp, hKP.1 q hqP, hKB.1 p hp, hKB.1 q hqP, lt_df, hpl, lt_df, hhow, j1, bnd3_s, lt_df, nn_succ]
              refine ⟨_, _, _, rfl, ?_⟩
              rw [show 8 * p + 2 + (q + 1) = 8 * p + 2 + q + 1 by omega, exM_so hsel hsx]
              exact j2
          rw [if_neg (nle (by omega) (by omega) (by omega)), nn_nat (show p < 2147483648 by omega), if_neg hcp, hKP.1 p hp, nn_nat (show d p < 2147483648 by omega), if_neg hcd, lt_df, nn_nat (show q < 2147483648 by omega), if_neg hcq, hKP.1 q hqP, hb.1]
          by_cases c1 : sBes S (nn (d p)) 1 = nn (d q)
          · obtain ⟨f1, q1, t1, g1, g2⟩ := j1 (by
              by_cases hq0 : S (46 + 4 * q) < 0
              · exact Or.inr hq0
              · exact Or.inl ((c_beside2 hI hd hp hqP h hq0).mpr (Or.inl c1)))
            rw [if_pos c1]
            unfold f4_tryPasses_J70
            exact ⟨_, m - 1, g1, by omega, q + 1, by omega, by omega, rfl, g2⟩
          · rw [if_neg c1, if_neg hcp, if_neg hcd, lt_df, if_neg hcq, hb.2]
            by_cases c2 : sBes S (nn (d p)) (-1) = nn (d q)
            · obtain ⟨f1, q1, t1, g1, g2⟩ := j1 (by
                by_cases hq0 : S (46 + 4 * q) < 0
                · exact Or.inr hq0
                · exact Or.inl ((c_beside2 hI hd hp hqP h hq0).mpr (Or.inr c2)))
              rw [if_pos c2]
              unfold f4_tryPasses_J70
              exact ⟨_, m - 1, g1, by omega, q + 1, by omega, by omega, rfl, g2⟩
            · rw [if_neg c2]
              refine ⟨_, m - 1, j0, by omega, q + 1, by omega, by omega, rfl, hno ?_⟩
              rw [hsx]
              by_cases hcv : cpV (SD P S d) p q = 0
              · rw [if_pos hcv]
              · exfalso
                have hq0 := (cpV_up hcv).2
                rw [SD_neg hqP hR9 hd] at hq0
                rcases (c_beside2 hI hd hp hqP h hq0).mp hcv with h9 | h9
                · exact c1 h9
                · exact c2 h9
        · right
          obtain rfl : q = P := by omega
          rw [if_pos (Int32.le_refl _)]
          exact ⟨_, rfl, hA⟩)
    rw [if_neg h, if_pos rfl, lt_df, nn_succ, e9, bnd3_s, hend]
    exact ⟨_, _, _, rfl, hA9⟩
theorem c_unfold {rungs people hour broken : Int32} {wrung grip want slips worn room strength weight told rung crowd : Nat → Int32} (hI : IV R P S) (hR0 : 0 < R) (hW : RWd S hour broken wrung grip want slips worn) (hL : RLd R P S rungs people room strength weight told) (hd : VD R P S d) : ∃ rung1 crowd1, f4_unfold rung crowd wrung rungs people (nn (hc R d 0 P)) = some (rung1, crowd1) ∧ KP R P S d rung1 crowd1 := by
  have hR9 := hI.1.1
  have hP4 := hI.1.2.1
  obtain ⟨cr0, f1, f2⟩ := fillV (n := 9) (by omega) crowd 0
  obtain ⟨⟨r9, c9⟩, e9, h9⟩ := iter_wfF (B := fun (z : (Nat → Int32) × (Nat → Int32) × Int32 × Int32) => f4_unfold_B24 people rungs wrung z.1 z.2.1 z.2.2.1 z.2.2.2) (s := (rung, cr0, nn (hc R d 0 P), (0 : Int32))) (n := P)
    (I := fun m z => ∃ k, m + k = P ∧ z.2.2.2 = nn k ∧ z.2.2.1 = nn (hc R d k (P - k)) ∧ (∀ p, p < k → z.1 p = nn (d p)) ∧ ∀ r, r < 9 → z.2.1 r = nn (crF (gR (SD P S d)) (nn r) k))
    (Po := fun z => KP R P S d z.1 z.2)
    ⟨0, rfl, rfl, rfl, fun p hp => absurd hp (Nat.not_lt_zero _), fun r hr => f2 r hr⟩ (by omega)
    (by
      rintro m ⟨rg, cr, v, c⟩ ⟨k, hm, rfl, rfl, hrg, hcr⟩
      dsimp only at hrg hcr ⊢
      unfold f4_unfold_B24
      rw [hL.1, hL.2.1]
      by_cases hk : k < P
      · left
        have hdk := (hd k hk).1
        have hlt : hc R d k (P - k) < 6561 := by
          have h1 := hc_lt (b := R) (d := d) (m := P - k) (k := k) (fun p h1 h2 => (hd p (by omega)).1)
          have h2 : R ^ (P - k) ≤ 9 ^ (P - k) := Nat.pow_le_pow_left (by omega) _
          have h3 : 9 ^ (P - k) ≤ 9 ^ 4 := Nat.pow_le_pow_right (by omega) (by omega)
          have h4 : 9 ^ 4 = 6561 := by decide
          omega
        have hsp : P - k = (P - (k + 1)) + 1 := by omega
        have e1 : nn (hc R d k (P - k)) / nn R = nn (hc R d (k + 1) (P - (k + 1))) := by
          have := pk_div (a := hc R d k (P - k)) (d := R) (by omega) hR0 (by omega)
          rw [show nn (hc R d k (P - k)) / nn R = nn (hc R d k (P - k) / R) from this]
          congr 1
          conv => lhs; rw [hsp]
          exact hc_div hdk
        have e2 : nn (hc R d k (P - k)) - nn (hc R d k (P - k)) / nn R * nn R = nn (d k) := by
          have := pk_rem (a := hc R d k (P - k)) (d := R) (by omega) hR0 (by omega)
          rw [show nn (hc R d k (P - k)) - nn (hc R d k (P - k)) / nn R * nn R = nn (hc R d k (P - k) % R) from this]
          congr 1
          conv => lhs; rw [hsp]
          exact hc_mod hdk
        have hck : ¬ (nn k < 0 ∨ 4 ≤ k) := ng (by omega) (by omega)
        have hcd : ¬ (nn (d k) < 0 ∨ 9 ≤ d k) := ng (by omega) (by omega)
        have hrg' : ∀ p, p < k + 1 → upd rg k (nn (d k)) p = nn (d p) := by
          intro p hp
          by_cases e : p = k
          · subst e; exact upd_at
          · rw [upd_ne e]; exact hrg p (by omega)
        have hR0' : ¬ nn R = 0 := nn0 (by omega) hR0
        rw [if_neg (nle (by omega) (by omega) (by omega)), if_neg (show ¬ nn R ≤ 0 from nle (b := 0) (by omega) (by omega) (by omega)), if_neg hR0', e2, e1, lt_df, nn_nat (show k < 2147483648 by omega), if_neg hck, lt_df, if_neg hR0', lt_df, c_fall hI hW hk, bnd1_s]
        by_cases h : S (46 + 4 * k) < 0
        · rw [if_pos h, if_neg (show ¬ (1 : Int32) = 0 by decide), lt_df, nn_succ]
          refine ⟨_, m - 1, rfl, by omega, k + 1, by omega, rfl, rfl, hrg', fun r hr => ?_⟩
          show cr r = nn (crF (gR (SD P S d)) (nn r) k + if SD P S d (46 + 4 * k) = nn r then 1 else 0)
          rw [SD_f h, if_neg, hcr r hr]; rfl
          intro h2
          rw [h2] at h
          exact nlt0 (by omega) h
        · rw [if_neg h, if_pos rfl, if_neg hck, upd_at, lt_df, nn_nat (show d k < 2147483648 by omega), if_neg hcd, lt_df, if_neg hcd, lt_df, lt_df, nn_succ, hcr (d k) (by omega), nn_succ]
          refine ⟨_, m - 1, rfl, by omega, k + 1, by omega, rfl, rfl, hrg', fun r hr => ?_⟩
          show upd cr (d k) _ r = nn (crF (gR (SD P S d)) (nn r) k + if SD P S d (46 + 4 * k) = nn r then 1 else 0)
          rw [SD_u hk h]
          by_cases e : r = d k
          · subst e
            rw [upd_at, if_pos rfl]
          · rw [upd_ne e, if_neg (nne (by omega) (by omega) (fun h => e h.symm)), hcr r hr]; rfl
      · right
        obtain rfl : k = P := by omega
        rw [if_pos (Int32.le_refl _)]
        exact ⟨_, rfl, hrg, hcr⟩)
  refine ⟨r9, c9, ?_, h9⟩
  unfold f4_unfold
  rw [f1, bnd1_s, e9, bnd2_s]
theorem c_isThere {set people hour broken : Int32} {wrung grip want slips worn rung crowd : Nat → Int32} (hI : IV R P S) (hW : RWd S hour broken wrung grip want slips worn) (hpp : people = nn P) (hd : VD R P S d) (hK : KP R P S d rung crowd) (hset : ∀ p, p < P → S (46 + 4 * p) < 0 → ((set >>> (nn p &&& 31)) &&& 1) = 0) : f4_isThere set rung want people = some (if glF S set d P then 1 else 0) := by
  have hP4 := hI.1.2.1
  unfold f4_isThere
  obtain ⟨a, e, h⟩ := iter_wfF (B := fun (z : Int32) => f4_isThere_B2 people set rung want z) (s := (0 : Int32)) (n := P)
    (I := fun m z => ∃ k, m + k = P ∧ z = nn k ∧ glF S set d k = true)
    (Po := fun a => (a = .inl 0 ∧ glF S set d P = false) ∨ (a = .inr () ∧ glF S set d P = true))
    ⟨0, rfl, rfl, rfl⟩ (by omega)
    (by
      rintro m z ⟨k, hk, rfl, hg⟩
      unfold f4_isThere_B2
      rw [hpp]
      by_cases hkP : k < P
      · have hs : glF S set d (k + 1) = (glF S set d k && (decide (((set >>> (nn k &&& 31)) &&& 1) = 0) || (decide (¬ S (46 + 4 * k) < 0) && decide (nn (d k) = S (48 + 4 * k))))) := rfl
        rw [hg, Bool.true_and] at hs
        have hck : ¬ (nn k < 0 ∨ 4 ≤ k) := ng (by omega) (by omega)
        rw [if_neg (nle (by omega) (by omega) (by omega))]
        by_cases hb : ((set >>> (nn k &&& 31)) &&& 1) = 0
        · left
          rw [if_pos hb, lt_df, nn_succ]
          refine ⟨_, m - 1, rfl, by omega, k + 1, by omega, rfl, ?_⟩
          rw [hs, decide_eq_true hb]; rfl
        · have hu : ¬ S (46 + 4 * k) < 0 := fun h => hb (hset k hkP h)
          rw [decide_eq_false hb, Bool.false_or, decide_eq_true hu, Bool.true_and] at hs
          rw [if_neg hb, nn_nat (show k < 2147483648 by omega), if_neg hck, if_neg hck, hK.1 k hkP, hW.2.2.2.2.1 k (by omega)]
          by_cases h2 : nn (d k) = S (48 + 4 * k)
          · left
            rw [if_pos h2, lt_df, nn_succ]
            refine ⟨_, m - 1, rfl, by omega, k + 1, by omega, rfl, ?_⟩
            rw [hs, decide_eq_true h2]
          · right
            rw [decide_eq_false h2] at hs
            rw [if_neg h2]
            refine ⟨_, rfl, Or.inl ⟨rfl, ?_⟩⟩
            cases hf : glF S set d P with
            | false => rfl
            | true =>
              have := glF_mono (S := S) (set := set) (d := d) (show k + 1 ≤ P by omega) hf
              rw [hs] at this; cases this
      · right
        obtain rfl : k = P := by omega
        rw [if_pos (Int32.le_refl _)]
        exact ⟨_, rfl, Or.inr ⟨rfl, hg⟩⟩)
  rw [e]
  rcases h with ⟨rfl, h⟩ | ⟨rfl, h⟩
  · rw [bndS0_l, h]; rfl
  · rw [bndS0_r, h]; rfl
/-- the begin of a search, in rows that are there -/
theorem c_begin47 {set rungs people hour broken tail0 : Int32} {wrung grip want slips worn room strength weight told from_ queue digit above below : Nat → Int32} (hI : IV R P S) (hR0 : 0 < R) (hW : RWd S hour broken wrung grip want slips worn) (hL : RLd R P S rungs people room strength weight told) : ∃ f1 q1 t1 dg1 ab1 bl1, f4_begin_J47 6561 rungs broken people wrung 6561 set from_ queue tail0 digit above below = some (1, set, f1, q1, t1, dg1, ab1, bl1) ∧ CA R P [e0 S] f1 q1 t1 ∧ KB R P S dg1 ab1 bl1 := by
  have hR9 := hI.1.1
  have hP4 := hI.1.2.1
  have hv := d0_VD hI hR0
  have hc6 : hc R (d0F S) 0 P < 6561 := hv.cR hR9 hP4
  obtain ⟨f0, a1, a2⟩ := fillV (n := 6561) (by omega) from_ (-1)
  obtain ⟨⟨ab9, bl9⟩, b1, b2⟩ := iter_wfF (B := fun (z : (Nat → Int32) × (Nat → Int32) × Int32) => f4_begin_B57 rungs broken z.1 z.2.1 z.2.2) (s := (above, below, (0 : Int32))) (n := R)
    (I := fun m z => ∃ k, m + k = R ∧ z.2.2 = nn k ∧ ∀ r, r < k → z.1 r = sBes S (nn r) 1 ∧ z.2.1 r = sBes S (nn r) (-1))
    (Po := fun z => ∀ r, r < R → z.1 r = sBes S (nn r) 1 ∧ z.2 r = sBes S (nn r) (-1))
    ⟨0, rfl, rfl, fun r hr => absurd hr (Nat.not_lt_zero _)⟩ (by omega)
    (by
      rintro m ⟨ab, bl, v⟩ ⟨k, hm, rfl, hk⟩
      dsimp only at hk ⊢
      unfold f4_begin_B57
      rw [hL.1]
      by_cases hkR : k < R
      · left
        have hck : ¬ (nn k < 0 ∨ 9 ≤ k) := ng (by omega) (by omega)
        rw [if_neg (nle (by omega) (by omega) (by omega)), c_beside hI.1.2.2.1 hR9 hW.2.1, bnd1_s, nn_nat (show k < 2147483648 by omega), if_neg hck, lt_df, c_beside hI.1.2.2.1 hR9 hW.2.1, bnd1_s, if_neg hck, lt_df, lt_df, nn_succ]
        refine ⟨_, m - 1, rfl, by omega, k + 1, by omega, rfl, fun r hr => ?_⟩
        by_cases e : r = k
        · subst e
          exact ⟨upd_at, upd_at⟩
        · have := hk r (by omega)
          exact ⟨(upd_ne e).trans this.1, (upd_ne e).trans this.2⟩
      · right
        obtain rfl : k = R := by omega
        rw [if_pos (Int32.le_refl _)]
        exact ⟨_, rfl, hk⟩)
  obtain ⟨⟨dg9, v9⟩, c1, rfl, c2⟩ := iter_wfF (B := fun (z : (Nat → Int32) × Int32 × Int32 × Int32) => f4_begin_B114 people wrung rungs z.1 z.2.1 z.2.2.1 z.2.2.2) (s := (digit, (0 : Int32), (1 : Int32), (0 : Int32))) (n := P)
    (I := fun m z => ∃ k, m + k = P ∧ z.2.2.2 = nn k ∧ z.2.1 = nn (hc R (d0F S) 0 k) ∧ z.2.2.1 = nn (R ^ k) ∧ ∀ p, p < k → z.1 p = nn (R ^ p))
    (Po := fun z => z.2 = nn (hc R (d0F S) 0 P) ∧ ∀ p, p < P → z.1 p = nn (R ^ p))
    ⟨0, rfl, rfl, rfl, by rw [Nat.pow_zero]; rfl, fun p hp => absurd hp (Nat.not_lt_zero _)⟩ (by omega)
    (by
      rintro m ⟨dg, v2, v3, v4⟩ ⟨k, hm, rfl, rfl, rfl, hk⟩
      dsimp only at hk ⊢
      unfold f4_begin_B114
      rw [hL.1, hL.2.1]
      by_cases hkP : k < P
      · left
        have hck : ¬ (nn k < 0 ∨ 4 ≤ k) := ng (by omega) (by omega)
        have hmx : (if 0 < wrung k then wrung k else 0) = nn (d0F S k) := by
          rw [hW.2.2.1 k (by omega)]
          unfold d0F
          rcases hI.2.1 k hkP with e | ⟨r, hr, e, -⟩
          · rw [e, if_neg (by decide)]; rfl
          · rw [e, nn_nat (by omega)]
            cases r with
            | zero => rw [if_neg (by decide)]; rfl
            | succ r => rw [if_pos (show 0 < nn (r + 1) from nltT (a := 0) (by omega) (by omega) (by omega))]
        rw [if_neg (nle (by omega) (by omega) (by omega)), nn_nat (show k < 2147483648 by omega), if_neg hck, lt_df, if_neg hck, hmx, lt_df, lt_df, lt_df, lt_df, nn_mul, nn_mul, nn_add, nn_succ, ← Nat.pow_succ]
        refine ⟨_, m - 1, rfl, by omega, k + 1, by omega, rfl, ?_, rfl, fun p hp => ?_⟩
        · show nn (hc R (d0F S) 0 k + R ^ k * d0F S k) = nn (hc R (d0F S) 0 (k + 1))
          rw [hc_end, Nat.zero_add, Nat.mul_comm (R ^ k)]
        · by_cases e : p = k
          · subst e; exact upd_at
          · exact (upd_ne e).trans (hk p (by omega))
      · right
        obtain rfl : k = P := by omega
        rw [if_pos (Int32.le_refl _)]
        exact ⟨_, rfl, rfl, hk⟩)
  have hcome : f4_comeTo 6561 f0 6561 queue 0 (nn (hc R (d0F S) 0 P)) (-2) = some (upd f0 (hc R (d0F S) 0 P) (-2), upd queue 0 (nn (hc R (d0F S) 0 P)), 1) := by
    unfold f4_comeTo
    have e6 : Int32.ofNat 6561 = nn 6561 := rfl
    rw [if_neg (nlt0 (by omega)), e6, if_neg (nle (by omega) (by omega) (by omega)), if_neg (show ¬ nn 6561 ≤ 0 by decide), nn_nat (show hc R (d0F S) 0 P < 2147483648 by omega), if_neg (ng (by omega) (by omega)), a2 _ hc6, if_pos rfl, if_neg (ng (by omega) (by omega)), lt_df, if_neg (show ¬ ((0 : Int32) < 0 ∨ 6561 ≤ Int32.toNatClampNeg 0) by decide), lt_df, lt_df]
    rfl
  refine ⟨upd f0 (hc R (d0F S) 0 P) (-2), upd queue 0 (nn (hc R (d0F S) 0 P)), 1, dg9, ab9, bl9, ?_, ⟨rfl, fun j x hj => ?_, fun n hn hx => ?_⟩, c2, b2⟩
  · unfold f4_begin_J47
    rw [a1, bnd1_s, b1, bnd2_s, c1, bnd2_s, hcome, bnd3_s]
  · cases j with
    | zero =>
      obtain rfl : e0 S = x := Option.some.inj hj
      exact ⟨upd_at, Or.inl ⟨rfl, upd_at⟩⟩
    | succ j => cases hj
  · have h1 : hc R (d0F S) 0 P ≠ n := hx (e0 S) (List.mem_singleton.mpr rfl)
    rw [upd_ne (fun h => h1 h.symm)]
    exact a2 n hn
end
