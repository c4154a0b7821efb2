/-! the class's search -/
def cdR (R P : Nat) (e : EN) : Nat := hc R e.1 0 P
theorem fillV {n : Nat} (hn : n < 10000) (z : Nat → Int32) (a : Int32) : ∃ z1, fJ7_fill n z a = some z1 ∧ ∀ i, i < n → z1 i = a := by
  refine ⟨ov n (fun _ => a) z, ?_, fun i hi => by unfold ov; rw [if_pos hi]⟩
  unfold fJ7_fill
  have h0 : Int32.ofNat n = nn n := rfl
  rw [lt_df, h0, iter_for (s := (z, (0 : Int32))) (st := fun k => (ov k (fun _ => a) z, nn k)) (n := n) (out := ov n (fun _ => a) z) (by rw [ov_0]; rfl) (by omega) ?hs ?he]
  · exact bnd1_s _ _
  case hs =>
    intro k hk
    unfold fJ7_fill_B5
    dsimp only
    rw [if_neg (nle (by omega) (by omega) (by omega)), nn_nat (by omega), if_neg (ng (by omega) (by omega)), lt_df, lt_df, nn_succ]
    have := ov_upd (k := k) (f := fun _ => a) (g := z)
    rw [this]
  case he =>
    unfold fJ7_fill_B5
    dsimp only
    rw [if_pos (Int32.le_refl _)]
theorem place_step {A B X Y : Nat} {x y z : Nat} (hX : X = y * z) (hY : Y = x * z) (h : B + X = A + Y) : nn A + (nn x - nn y) * nn z = nn B := by
  subst hX hY
  have h2 : nn B + nn y * nn z = nn A + nn x * nn z := by rw [nn_mul, nn_mul, nn_add, nn_add, h]
  grind
theorem place_pass {A B x y u v : Nat} (h : B + y * u + x * v = A + x * u + y * v) : nn A + (nn x - nn y) * (nn u - nn v) = nn B := by
  have h2 : nn B + nn y * nn u + nn x * nn v = nn A + nn x * nn u + nn y * nn v := by
    rw [nn_mul, nn_mul, nn_mul, nn_mul, nn_add, nn_add, nn_add, nn_add, h]
  grind
section
variable {S : Nat → Int32} {R P : Nat} {d e : Nat → Nat} {L : List EN} {lo hi i dp : Nat}
theorem cd_iff {x y : EN} (hx : VD R P S x.1) (hy : VD R P S y.1) (hR9 : R < 10) : cd9 P x = cd9 P y ↔ cdR R P x = cdR R P y := by
  constructor
  · intro h
    have := hc_inj (fun p h1 h2 => ⟨hx.d9 hR9 p h1 h2, hy.d9 hR9 p h1 h2⟩) h
    exact hc_congr this
  · intro h
    have := hc_inj (fun p h1 h2 => ⟨hx.dR p h1 h2, hy.dR p h1 h2⟩) h
    exact hc_congr this
/-- the class's rows: the queue, and where each was first come to from -/
def CA (R P : Nat) (L : List EN) (from_ queue : Nat → Int32) (tail : Int32) : Prop := tail = nn L.length ∧ (∀ (j : Nat) (e : EN), L[j]? = some e → queue j = nn (cdR R P e) ∧ ((j = 0 ∧ from_ (cdR R P e) = -2) ∨ (0 < j ∧ e.2.2.1 < 32 ∧ ∃ pe : EN, L[e.2.1]? = some pe ∧ from_ (cdR R P e) = nn (cdR R P pe * 64 + e.2.2.1)))) ∧ ∀ n, n < 6561 → (∀ e, e ∈ L → cdR R P e ≠ n) → from_ n = -1
theorem CA.seen {from_ queue : Nat → Int32} {tail : Int32} {x : EN} (hA : CA R P L from_ queue tail) (hG : GL R P S L) (hv : VD R P S x.1) (hR9 : R < 10) (hP4 : P < 5) : from_ (cdR R P x) = -1 ↔ ¬ seenL P L (cd9 P x) = true := by
  have hcx : cdR R P x < 6561 := hv.cR hR9 hP4
  constructor
  · intro h c
    obtain ⟨y, hy, e2⟩ := seen_iff.mp c
    have hvy := hG.2 y hy
    rw [cd_iff hvy hv hR9] at e2
    obtain ⟨j, hj⟩ := List.getElem?_of_mem hy
    rcases (hA.2.1 j y hj).2 with ⟨-, h2⟩ | ⟨-, hm, pe, hp, h2⟩
    · rw [e2, h] at h2; exact absurd h2 (by decide)
    · have hcp : cdR R P pe < 6561 := (hG.2 pe (List.mem_of_getElem? hp)).cR hR9 hP4
      rw [e2, h] at h2
      exact nn_ne_m1 (by omega) h2.symm
  · intro c
    refine hA.2.2 _ hcx (fun y hy e2 => c (seen_iff.mpr ⟨y, hy, ?_⟩))
    rw [cd_iff (hG.2 y hy) hv hR9]
    exact e2
theorem CA.push {from_ queue : Nat → Int32} {tail : Int32} {x pe : EN} (hA : CA R P L from_ queue tail) (hG : GL R P S L) (hv : VD R P S x.1) (hR9 : R < 10) (c : ¬ seenL P L (cd9 P x) = true) (h0 : 0 < L.length) (hm : x.2.2.1 < 32) (hp : L[x.2.1]? = some pe) : CA R P (L ++ [x]) (upd from_ (cdR R P x) (nn (cdR R P pe * 64 + x.2.2.1))) (upd queue L.length (nn (cdR R P x))) (nn (L.length + 1)) := by
  have hne : ∀ y, y ∈ L → cdR R P y ≠ cdR R P x := fun y hy e2 => c (seen_iff.mpr ⟨y, hy, by rw [cd_iff (hG.2 y hy) hv hR9]; exact e2⟩)
  refine ⟨by rw [List.length_append, List.length_singleton], fun j y hj => ?_, fun n hn hx => ?_⟩
  · by_cases hl : j < L.length
    · rw [List.getElem?_append_left hl] at hj
      obtain ⟨h1, h2⟩ := hA.2.1 j y hj
      rw [upd_ne (by omega), upd_ne (hne y (List.mem_of_getElem? hj))]
      refine ⟨h1, ?_⟩
      rcases h2 with h2 | ⟨a, b, q, hq, h3⟩
      · exact Or.inl h2
      · exact Or.inr ⟨a, b, q, by rw [List.getElem?_append_left ((List.getElem?_eq_some_iff.mp hq).1)]; exact hq, h3⟩
    · rw [List.getElem?_append_right (by omega)] at hj
      have hj0 : j - L.length = 0 := by
        rcases Nat.eq_zero_or_pos (j - L.length) with h | h
        · exact h
        · rw [List.getElem?_eq_none (by rw [List.length_singleton]; omega)] at hj; cases hj
      rw [hj0] at hj
      obtain rfl : x = y := Option.some.inj hj
      obtain rfl : j = L.length := by omega
      rw [upd_at, upd_at]
      exact ⟨rfl, Or.inr ⟨h0, hm, pe, by rw [List.getElem?_append_left ((List.getElem?_eq_some_iff.mp hp).1)]; exact hp, rfl⟩⟩
  · have h1 := hx x (List.mem_append_right _ (List.mem_singleton.mpr rfl))
    rw [upd_ne (fun h => h1 h.symm)]
    exact hA.2.2 n hn (fun y hy => hx y (List.mem_append_left _ hy))
theorem c_comeTo {from_ queue : Nat → Int32} {tail : Int32} {x pe : EN} (hA : CA R P L from_ queue tail) (hG : GL R P S L) (hv : VD R P S x.1) (hR9 : R < 10) (hP4 : P < 5) (h0 : 0 < L.length) (hm : x.2.2.1 < 32) (hp : L[x.2.1]? = some pe) : ∃ f1 q1 t1, f4_comeTo 6561 from_ 6561 queue tail (nn (cdR R P x)) (nn (cdR R P pe * 64 + x.2.2.1)) = some (f1, q1, t1) ∧ CA R P (pushE P L x) f1 q1 t1 := by
  have hcx : cdR R P x < 6561 := hv.cR hR9 hP4
  have hlen := hG.len hR9 hP4
  have e6 : Int32.ofNat 6561 = nn 6561 := rfl
  unfold f4_comeTo pushE
  rw [if_neg (nlt0 (by omega)), e6, if_neg (nle (by omega) (by omega) (by omega)), nn_nat (show cdR R P x < 2147483648 by omega), hA.1]
  by_cases c : seenL P L (cd9 P x) = true
  · rw [if_pos c]
    refine ⟨from_, queue, nn L.length, ?_, by rw [← hA.1]; exact hA⟩
    by_cases hl : 6561 ≤ L.length
    · rw [if_pos (nleT (by omega) (by omega) hl)]
    · rw [if_neg (nle (by omega) (by omega) hl), if_neg (ng (by omega) (by omega)), if_neg (fun h => ((hA.seen hG hv hR9 hP4).mp h) c)]
  · have hrm := hG.room hR9 hP4 hv c
    have hpu := hA.push hG hv hR9 c h0 hm hp
    rw [if_neg c, if_neg (nle (by omega) (by omega) (by omega)), if_neg (ng (by omega) (by omega)), if_pos ((hA.seen hG hv hR9 hP4).mpr c), if_neg (ng (by omega) (by omega)), lt_df, nn_nat (show L.length < 2147483648 by omega), if_neg (ng (by omega) (by omega)), lt_df, lt_df, nn_succ]
    exact ⟨_, _, _, rfl, hpu⟩
/-- what the class keeps of a place and of the rungs beside -/
def KP (R P : Nat) (S : Nat → Int32) (d : Nat → Nat) (rung crowd : Nat → Int32) : Prop := (∀ p, p < P → rung p = nn (d p)) ∧ ∀ r, r < 9 → crowd r = nn (crF (gR (SD P S d)) (nn r) P)
def KB (R P : Nat) (S : Nat → Int32) (digit above below : Nat → Int32) : Prop := (∀ p, p < P → digit p = nn (R ^ p)) ∧ (∀ r, r < R → above r = sBes S (nn r) 1 ∧ below r = sBes S (nn r) (-1))
theorem sBes_SD {x w : Int32} (hR : S 0 = nn R) (hR9 : R < 10) : sBes (SD P S d) x w = sBes S x w := by
  have h0 : SD P S d 0 = S 0 := SD_o (by omega)
  have hg : ∀ y, sRg (SD P S d) y = sRg S y := fun y => by unfold sRg; rw [h0]
  have hw : ∀ y, sWh (SD P S d) y = sWh S y := by
    intro y
    unfold sWh
    rw [hg]
    cases h : sRg S y with
    | false => rfl
    | true =>
      obtain ⟨r, hr, rfl⟩ := (sRg_iff hR hR9).mp h
      rw [nn_nat (by omega), SD_o (by omega)]
  unfold sBes
  rw [hw, hw, hg]
theorem c_tryStep {p k : Nat} {from_ queue : Nat → Int32} {tail rungs people : Int32} {digit rung crowd above below room strength weight told : Nat → Int32} {pe : EN} (hI : IV R P S) (hL : RLd R P S rungs people room strength weight told) (hG : GL R P S L) (hd : VD R P S d) (hp : p < P) (hu : ¬ S (46 + 4 * p) < 0) (hk : k < 2) (hlo : lo = 0) (hhi : 2 ≤ hi)
    (hA : CA R P (exM S P lo hi d i dp L (8 * p + k)) from_ queue tail) (h0 : L[i]? = some pe) (hpe : pe.1 = d) (hKP : KP R P S d rung crowd) (hKB : KB R P S digit above below) :
    ∃ f1 q1 t1, f4_tryStep 6561 from_ 6561 queue tail digit rung crowd room (nn (cdR R P pe)) (nn p) (sBes S (nn (d p)) (sWy k)) (nn k) = some (f1, q1, t1) ∧ CA R P (exM S P lo hi d i dp L (8 * p + k + 1)) f1 q1 t1 := by
  have hR9 := hI.1.1
  have hP4 := hI.1.2.1
  have hI2 := IV_SD hI hd
  have hdp := (hd p hp).1
  have hm8 : (8 * p + k) / 8 = p ∧ (8 * p + k) % 8 = k := by omega
  have hsx : suc S P d (8 * p + k) = if sStep (SD P S d) P p (sWy k) = -1 then none else some (upN d p (sStep (SD P S d) P p (sWy k)).toNatClampNeg) := by
    unfold suc
    rw [hm8.1, hm8.2, if_neg (by omega), if_neg hu, if_pos hk]
  have hst : sStep (SD P S d) P p (sWy k) = if sBes S (nn (d p)) (sWy k) = -1 then -1 else if sRoom (SD P S d) P (sBes S (nn (d p)) (sWy k)) then sBes S (nn (d p)) (sWy k) else -1 := by
    unfold sStep
    rw [SD_u hp hu, sBes_SD hI.1.2.2.1 hR9]
  have hsel : lo ≤ (8 * p + k) % 8 ∧ (8 * p + k) % 8 < hi := by omega
  unfold f4_tryStep
  rcases sBes_cases hI.1.2.2.1 hR9 (nn (d p)) (sWy k) with e | ⟨r, hr, e, hr0⟩
  · rw [if_pos e] at hst
    rw [if_pos hst] at hsx
    rw [if_pos e, exM_no (Or.inr hsx)]
    exact ⟨_, _, _, rfl, hA⟩
  · rw [e, if_neg (nn_ne_m1 (by omega)), sRoom_nn (by omega), SD_o (show ¬ (46 ≤ 10 + 4 * r ∧ 10 + 4 * r < 46 + 4 * P ∧ (10 + 4 * r) % 4 = 2) by omega)] at hst
    rw [e, if_neg (nn_ne_m1 (by omega)), nn_nat (show r < 2147483648 by omega), if_neg (ng (by omega) (by omega)), if_neg (ng (by omega) (by omega)), hL.2.2.1 r hr, hKP.2 r (by omega)]
    by_cases hroom : nn (crF (gR (SD P S d)) (nn r) P) < S (10 + 4 * r)
    · rw [decide_eq_true hroom, if_pos rfl] at hst
      rw [hst, if_neg (nn_ne_m1 (by omega)), nn_nat (by omega)] at hsx
      have hv := suc_VD hI hd hsx
      have hGx := hG.ex (lo := lo) (hi := hi) (i := i) (dp := dp) hI hd (8 * p + k)
      obtain ⟨T, hT⟩ := exM_pre (S := S) (P := P) (lo := lo) (hi := hi) (d := d) (i := i) (dp := dp) (L := L) (8 * p + k)
      have hx0 : (exM S P lo hi d i dp L (8 * p + k))[i]? = some pe := by
        rw [hT, List.getElem?_append_left ((List.getElem?_eq_some_iff.mp h0).1)]; exact h0
      have hlen : 0 < (exM S P lo hi d i dp L (8 * p + k)).length := by
        have := (List.getElem?_eq_some_iff.mp hx0).1; omega
      obtain ⟨f1, q1, t1, j1, j2⟩ := c_comeTo (x := (upN d p r, i, 8 * p + k, dp)) hA hGx hv hR9 hP4 hlen (show 8 * p + k < 32 by omega) hx0
      have hpl : nn (cdR R P pe) + (nn r - nn (d p)) * nn (R ^ p) = nn (cdR R P ((upN d p r, i, 8 * p + k, dp) : EN)) := by
        have := hc_up (b := R) (r := r) (d := d) (Nat.zero_le p) (show p < 0 + P by omega)
        rw [Nat.sub_zero] at this
        refine place_step rfl rfl ?_
        show hc R (upN d p r) 0 P + d p * R ^ p = hc R pe.1 0 P + r * R ^ p
        rw [hpe]; exact this
      have hhow : nn (cdR R P pe) * 64 + nn p * 8 + nn k = nn (cdR R P pe * 64 + (8 * p + k)) := by
        rw [show (64 : Int32) = nn 64 from rfl, show (8 : Int32) = nn 8 from rfl, nn_mul, nn_mul, nn_add, nn_add]
        congr 1
        omega
      rw [if_neg (Int32.not_le.mpr hroom), nn_nat (show p < 2147483648 by omega), if_neg (ng (by omega) (by omega)), if_neg (ng (by omega) (by omega)), hKP.1 p hp, hKB.1 p hp, lt_df, hpl, hhow, j1, bnd3_s, exM_so hsel hsx]
      exact ⟨_, _, _, rfl, j2⟩
    · rw [decide_eq_false hroom, if_neg (by decide)] at hst
      rw [if_pos hst] at hsx
      rw [if_pos (Int32.not_lt.mp hroom), exM_no (Or.inr hsx)]
      exact ⟨_, _, _, rfl, hA⟩
theorem c_fallW {p : Nat} {hour broken : Int32} {wrung grip want slips worn : Nat → Int32} (hI : IV R P S) (hW : RWd S hour broken wrung grip want slips worn) (hp : p < P) : f10_hasFallen wrung (nn p) = some (if S (46 + 4 * p) < 0 then 1 else 0) := c_fall hI hW hp
theorem ex_fall {p : Nat} (h : S (46 + 4 * p) < 0) {m : Nat} (h1 : 8 * p ≤ m) (h2 : m ≤ 8 * (p + 1)) : exM S P lo hi d i dp L m = exM S P lo hi d i dp L (8 * p) :=
  exM_gap' h1 (fun q h3 h4 => Or.inr (suc_fall (by rw [show q / 8 = p by omega]; exact h)))
theorem c_trySteps {p : Nat} {from_ queue : Nat → Int32} {tail rungs people hour broken : Int32} {digit rung crowd above below room strength weight told wrung grip want slips worn : Nat → Int32} {pe : EN} (hI : IV R P S) (hW : RWd S hour broken wrung grip want slips worn) (hL : RLd R P S rungs people room strength weight told) (hG : GL R P S L) (hd : VD R P S d) (hp : p < P) (hlo : lo = 0) (hhi : 2 ≤ hi)
    (hA : CA R P (exM S P lo hi d i dp L (8 * p)) from_ queue tail) (h0 : L[i]? = some pe) (hpe : pe.1 = d) (hKP : KP R P S d rung crowd) (hKB : KB R P S digit above below) :
    ∃ f1 q1 t1, f4_trySteps 6561 from_ 6561 queue tail digit rung crowd above below wrung room (nn (cdR R P pe)) (nn p) = some (f1, q1, t1) ∧ CA R P (exM S P lo hi d i dp L (8 * p + 2)) f1 q1 t1 := by
  have hR9 := hI.1.1
  have hP4 := hI.1.2.1
  have hdp := (hd p hp).1
  unfold f4_trySteps
  rw [c_fall hI hW hp, bnd1_s]
  by_cases h : S (46 + 4 * p) < 0
  · rw [if_pos h, if_neg (show ¬ (1 : Int32) = 0 by decide), ex_fall h (by omega) (by omega)]
    exact ⟨_, _, _, rfl, hA⟩
  · obtain ⟨f1, q1, t1, j1, j2⟩ := c_tryStep (k := 0) hI hL hG hd hp h (by omega) hlo hhi hA h0 hpe hKP hKB
    obtain ⟨f2, q2, t2, k1, k2⟩ := c_tryStep (k := 1) hI hL hG hd hp h (by omega) hlo hhi j2 h0 hpe hKP hKB
    have hb := hKB.2 (d p) hdp
    rw [if_neg h, if_pos rfl, nn_nat (show p < 2147483648 by omega), if_neg (ng (by omega) (by omega)), hKP.1 p hp, nn_nat (show d p < 2147483648 by omega), if_neg (ng (by omega) (by omega)), lt_df, hb.1]
    rw [show f4_tryStep 6561 from_ 6561 queue tail digit rung crowd room (nn (cdR R P pe)) (nn p) (sBes S (nn (d p)) 1) 0 = _ from j1, bnd3_s, if_neg (ng (by omega) (by omega)), if_neg (ng (by omega) (by omega)), lt_df, hb.2]
    rw [show f4_tryStep 6561 f1 6561 q1 t1 digit rung crowd room (nn (cdR R P pe)) (nn p) (sBes S (nn (d p)) (-1)) 1 = _ from k1, bnd3_s]
    exact ⟨_, _, _, rfl, k2⟩
/-- up from b one comes to a as down from a to b, where both are whole -/
theorem sBes_updown {a b : Nat} (hR : S 0 = nn R) (hR9 : R < 10) (ha : a < R) (hb : b < R) (wa : S (13 + 4 * a) = 0) (wb : S (13 + 4 * b) = 0) : sBes S (nn a) (-1) = nn b ↔ sBes S (nn b) 1 = nn a := by
  have wh : ∀ r, r < R → (sWh S (nn r) = true ↔ S (13 + 4 * r) = 0) := fun r hr => by
    rw [sWh_iff hR hR9]
    constructor
    · rintro ⟨q, hq, e, h⟩
      have := nn_inj (by omega) (by omega) e
      subst this; exact h
    · intro h; exact ⟨r, hr, rfl, h⟩
  have rg : ∀ r, r < R → sRg S (nn r) = true := fun r hr => (sRg_iff hR hR9).mpr ⟨r, hr, rfl⟩
  have m1 : sRg S (-1) = false := by
    cases h : sRg S (-1) with
    | false => rfl
    | true => obtain ⟨r, hr, e⟩ := (sRg_iff hR hR9).mp h; exact absurd e.symm (nn_ne_m1 (by omega))
  have m1w : sWh S (-1) = false := by unfold sWh; rw [m1]; rfl
  have m2w : sWh S (-2) = false := by
    cases h : sWh S (-2) with
    | false => rfl
    | true =>
      obtain ⟨r, hr, e, _⟩ := (sWh_iff hR hR9).mp h
      have : nn r < 0 := by rw [← e]; decide
      exact absurd this (nlt0 (by omega))
  have big : ∀ r, R ≤ r → r < 20 → sRg S (nn r) = false := by
    intro r h1 h2
    cases h : sRg S (nn r) with
    | false => rfl
    | true =>
      obtain ⟨q, hq, e⟩ := (sRg_iff hR hR9).mp h
      have := nn_inj (by omega) (by omega) e
      omega
  have bigw : ∀ r, R ≤ r → r < 20 → sWh S (nn r) = false := fun r h1 h2 => by unfold sWh; rw [big r h1 h2]; rfl
  have up : sBes S (nn b) 1 = nn a ↔ (a = b + 1 ∨ (a = b + 2 ∧ ¬ S (13 + 4 * (b + 1)) = 0)) := by
    unfold sBes
    rw [if_neg (nlt0 (by omega)), nn_succ, nn_succ]
    by_cases h1 : b + 1 < R
    · rw [rg _ h1, Bool.true_and]
      by_cases h2 : S (13 + 4 * (b + 1)) = 0
      · rw [if_pos ((wh _ h1).mpr h2), nn_eq (by omega) (by omega)]
        constructor
        · intro h; exact Or.inl h.symm
        · rintro (h | ⟨h, h3⟩)
          · exact h.symm
          · exact absurd h2 h3
      · rw [if_neg (fun h => h2 ((wh _ h1).mp h))]
        by_cases h3 : sWh S (nn (b + 1 + 1)) = true
        · rw [if_pos h3, nn_eq (by omega) (by omega)]
          constructor
          · intro h; exact Or.inr ⟨by omega, h2⟩
          · rintro (h | ⟨h, _⟩)
            · subst h; exact absurd wa h2
            · omega
        · rw [if_neg h3]
          constructor
          · intro h; exact absurd h.symm (nn_ne_m1 (by omega))
          · rintro (h | ⟨h, _⟩)
            · subst h; exact absurd wa h2
            · exfalso
              subst h
              exact h3 ((wh _ ha).mpr wa)
    · rw [bigw _ (by omega) (by omega), if_neg (by decide), big _ (by omega) (by omega), Bool.false_and, if_neg (by decide)]
      constructor
      · intro h; exact absurd h.symm (nn_ne_m1 (by omega))
      · rintro (h | ⟨h, _⟩) <;> omega
  have down : sBes S (nn a) (-1) = nn b ↔ (a = b + 1 ∨ (a = b + 2 ∧ ¬ S (13 + 4 * (b + 1)) = 0)) := by
    unfold sBes
    rw [if_neg (nlt0 (by omega))]
    cases a with
    | zero =>
      rw [nn_zero_pred', m1w, if_neg (by decide), m1, Bool.false_and, if_neg (by decide)]
      constructor
      · intro h; exact absurd h.symm (nn_ne_m1 (by omega))
      · rintro (h | ⟨h, _⟩) <;> omega
    | succ a =>
      rw [nn_pred, rg a (by omega), Bool.true_and]
      by_cases h2 : S (13 + 4 * a) = 0
      · rw [if_pos ((wh _ (by omega)).mpr h2), nn_eq (by omega) (by omega)]
        constructor
        · intro h; exact Or.inl (by omega)
        · rintro (h | ⟨h, h3⟩)
          · omega
          · have : a = b + 1 := by omega
            subst this; exact absurd h2 h3
      · rw [if_neg (fun h => h2 ((wh _ (by omega)).mp h))]
        cases a with
        | zero =>
          rw [nn_zero_pred', m1w, if_neg (by decide)]
          constructor
          · intro h; exact absurd h.symm (nn_ne_m1 (by omega))
          · rintro (h | ⟨h, _⟩)
            · obtain rfl : b = 0 := by omega
              exact absurd wb h2
            · omega
        | succ a =>
          rw [nn_pred]
          by_cases h3 : sWh S (nn a) = true
          · rw [if_pos h3, nn_eq (by omega) (by omega)]
            constructor
            · intro h; subst h; exact Or.inr ⟨by omega, h2⟩
            · rintro (h | ⟨h, _⟩)
              · have : b = a + 1 := by omega
                subst this; exact absurd wb h2
              · omega
          · rw [if_neg h3]
            constructor
            · intro h; exact absurd h.symm (nn_ne_m1 (by omega))
            · rintro (h | ⟨h, _⟩)
              · have : b = a + 1 := by omega
                subst this; exact absurd wb h2
              · exfalso
                have : b = a := by omega
                subst this
                exact h3 ((wh _ hb).mpr wb)
  rw [up, down]
end
