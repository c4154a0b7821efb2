/-! rules: rows of items behind one another; an item (0, v) is a number, (1, w) a word, (2, s) a sign by the reference's number -/
def opC : Nat → Nat
  | 2 => 43 | 3 => 45 | 4 => 42 | 5 => 47 | 6 => 60 | 7 => 316 | 8 => 61 | 9 => 318 | 10 => 62 | 11 => 33 | 12 => 38 | 13 => 124 | _ => 37
def itOK (i : Nat × Nat) : Prop := (i.1 = 0 ∧ i.2 < 100000) ∨ (i.1 = 1 ∧ i.2 < 13) ∨ (i.1 = 2 ∧ 2 ≤ i.2 ∧ i.2 ≤ 14)
def encC (i : Nat × Nat) : Nat := if i.1 = 0 then i.2 else if i.1 = 1 then 1048576 + i.2 else 2097152 + opC i.2
def encM (i : Nat × Nat) : Nat := if i.1 = 0 then 16 * i.2 else if i.1 = 1 then 1 + 16 * i.2 else i.2
def ap (s : Nat) (x y : Int64) : Int64 :=
  if s = 2 then x + y else if s = 3 then x - y else if s = 4 then x * y else if s = 5 then (if y = 0 then 0 else x / y) else if s = 6 then (if x < y then 1 else 0) else if s = 7 then (if x ≤ y then 1 else 0) else if s = 8 then (if x = y then 1 else 0) else if s = 9 then (if y ≤ x then 1 else 0) else if s = 10 then (if y < x then 1 else 0) else if s = 12 then x &&& y else if s = 14 then (if y = 0 then 0 else x - x / y * y) else x ||| y
def stp (w : Nat → Int64) (i : Nat × Nat) (st : List Int64) : Option (List Int64) :=
  if i.1 = 0 then some (Int32.toInt64 (nn i.2) :: st) else if i.1 = 1 then some (w i.2 :: st)
  else if i.2 = 11 then (match st with | [] => none | y :: r => some ((1 - y) :: r))
  else (match st with | [] => none | [_] => none | y :: x :: r => some (ap i.2 x y :: r))
def runI (w : Nat → Int64) : List (Nat × Nat) → List Int64 → Option (List Int64)
  | [], st => some st
  | i :: r, st => match stp w i st with
    | none => none
    | some st' => runI w r st'
theorem runI_app (w : Nat → Int64) : ∀ (a b : List (Nat × Nat)) (st st' : List Int64), runI w a st = some st' → runI w (a ++ b) st = runI w b st'
  | [], b, st, st', h => by simp only [runI, Option.some.injEq] at h; subst h; rfl
  | i :: r, b, st, st', h => by
    simp only [runI] at h
    simp only [List.cons_append, runI]
    split at h
    · cases h
    · next q hq => exact runI_app w r b q st' h
/-- how many items put something on the stack -/
def cntP : List (Nat × Nat) → Nat
  | [] => 0
  | i :: r => (if i.1 = 2 then 0 else 1) + cntP r
theorem cntP_app : ∀ a b, cntP (a ++ b) = cntP a + cntP b
  | [], b => by simp [cntP]
  | i :: r, b => by simp only [List.cons_append, cntP, cntP_app r b]; omega
/-- a row that leaves one value; one that leaves 0 or 1 -/
def SgS (a : List (Nat × Nat)) : Prop := (∀ i ∈ a, itOK i) ∧ ∀ w, ∃ v, ∀ st, runI w a st = some (v :: st)
def SgT (a : List (Nat × Nat)) : Prop := (∀ i ∈ a, itOK i) ∧ ∀ w, ∃ v, (v = 0 ∨ v = 1) ∧ ∀ st, runI w a st = some (v :: st)
theorem SgS.num {v : Nat} (h : v < 100000) : SgS [(0, v)] := ⟨fun i hi => by simp at hi; subst hi; exact Or.inl ⟨rfl, h⟩, fun w => ⟨_, fun st => rfl⟩⟩
theorem SgS.word {v : Nat} (h : v < 13) : SgS [(1, v)] := ⟨fun i hi => by simp at hi; subst hi; exact Or.inr (Or.inl ⟨rfl, h⟩), fun w => ⟨_, fun st => rfl⟩⟩
theorem run_op {w : Nat → Int64} {a b : List (Nat × Nat)} {s : Nat} {x y : Int64} {st : List Int64} (hs : s ≠ 11) (ha : ∀ st, runI w a st = some (x :: st)) (hb : ∀ st, runI w b st = some (y :: st)) : runI w (a ++ b ++ [(2, s)]) st = some (ap s x y :: st) := by
  rw [List.append_assoc, runI_app w a _ st _ (ha st), runI_app w b _ _ _ (hb _)]
  simp only [runI, stp]
  rw [if_neg (by decide), if_neg (by decide), if_neg hs]
theorem run_not {w : Nat → Int64} {a : List (Nat × Nat)} {y : Int64} {st : List Int64} (ha : ∀ st, runI w a st = some (y :: st)) : runI w (a ++ [(2, 11)]) st = some ((1 - y) :: st) := by
  rw [runI_app w a _ st _ (ha st)]
  rfl
theorem itOK_app {a b : List (Nat × Nat)} (ha : ∀ i ∈ a, itOK i) (hb : ∀ i ∈ b, itOK i) : ∀ i ∈ a ++ b, itOK i := fun i hi => (List.mem_append.mp hi).elim (ha i) (hb i)
theorem itOK_s {s : Nat} (h2 : 2 ≤ s) (h : s ≤ 14) : ∀ i ∈ [(2, s)], itOK i := fun i hi => by simp at hi; subst hi; exact Or.inr (Or.inr ⟨rfl, h2, h⟩)
theorem SgS.op {a b : List (Nat × Nat)} {s : Nat} (h2 : 2 ≤ s) (h : s ≤ 14) (hs : s ≠ 11) (ha : SgS a) (hb : SgS b) : SgS (a ++ b ++ [(2, s)]) := by
  refine ⟨itOK_app (itOK_app ha.1 hb.1) (itOK_s h2 h), fun w => ?_⟩
  obtain ⟨x, hx⟩ := ha.2 w
  obtain ⟨y, hy⟩ := hb.2 w
  exact ⟨ap s x y, fun st => run_op hs hx hy⟩
theorem SgT.cmp {a b : List (Nat × Nat)} {s : Nat} (h6 : 6 ≤ s) (h : s ≤ 10) (ha : SgS a) (hb : SgS b) : SgT (a ++ b ++ [(2, s)]) := by
  refine ⟨itOK_app (itOK_app ha.1 hb.1) (itOK_s (by omega) (by omega)), fun w => ?_⟩
  obtain ⟨x, hx⟩ := ha.2 w
  obtain ⟨y, hy⟩ := hb.2 w
  refine ⟨ap s x y, ?_, fun st => run_op (by omega) hx hy⟩
  rcases (show s = 6 ∨ s = 7 ∨ s = 8 ∨ s = 9 ∨ s = 10 by omega) with rfl | rfl | rfl | rfl | rfl
  all_goals (unfold ap; simp only [Nat.reduceEqDiff, if_false, if_true]; split; exact Or.inr rfl; exact Or.inl rfl)
theorem SgT.and {a b : List (Nat × Nat)} (ha : SgT a) (hb : SgT b) : SgT (a ++ b ++ [(2, 12)]) := by
  refine ⟨itOK_app (itOK_app ha.1 hb.1) (itOK_s (by omega) (by omega)), fun w => ?_⟩
  obtain ⟨x, h1, hx⟩ := ha.2 w
  obtain ⟨y, h2, hy⟩ := hb.2 w
  refine ⟨ap 12 x y, ?_, fun st => run_op (by omega) hx hy⟩
  rcases h1 with rfl | rfl <;> rcases h2 with rfl | rfl <;> decide
theorem SgT.or {a b : List (Nat × Nat)} (ha : SgT a) (hb : SgT b) : SgT (a ++ b ++ [(2, 13)]) := by
  refine ⟨itOK_app (itOK_app ha.1 hb.1) (itOK_s (by omega) (by omega)), fun w => ?_⟩
  obtain ⟨x, h1, hx⟩ := ha.2 w
  obtain ⟨y, h2, hy⟩ := hb.2 w
  refine ⟨ap 13 x y, ?_, fun st => run_op (by omega) hx hy⟩
  rcases h1 with rfl | rfl <;> rcases h2 with rfl | rfl <;> decide
theorem SgT.not {a : List (Nat × Nat)} (ha : SgT a) : SgT (a ++ [(2, 11)]) := by
  refine ⟨itOK_app ha.1 (itOK_s (by omega) (by omega)), fun w => ?_⟩
  obtain ⟨x, h1, hx⟩ := ha.2 w
  refine ⟨1 - x, ?_, fun st => run_not hx⟩
  rcases h1 with rfl | rfl <;> decide
/-! the machines' stacks -/
def stkR (f : Nat → Int64) : List Int64 → Prop
  | [] => True
  | v :: r => f r.length = v ∧ stkR f r
theorem stkR_up {f : Nat → Int64} {i : Nat} {v : Int64} : ∀ {r : List Int64}, stkR f r → r.length ≤ i → stkR (vp_updL f i v) r
  | [], _, _ => trivial
  | x :: r, h, hi => by
    have hl : r.length + 1 ≤ i := hi
    refine ⟨?_, stkR_up h.2 (by omega)⟩
    unfold vp_updL
    rw [if_neg (by omega)]; exact h.1
theorem stkR_push {f : Nat → Int64} {v : Int64} {r : List Int64} (h : stkR f r) : stkR (vp_updL f r.length v) (v :: r) :=
  ⟨by unfold vp_updL; rw [if_pos rfl], stkR_up h (Nat.le_refl _)⟩
theorem k64 : (64 : Int32) = nn 64 := rfl
theorem c_push {f : Nat → Int64} {v : Int64} {r : List Int64} (hl : r.length < 64) : f5_push f (nn r.length) v = some (vp_updL f r.length v, nn (r.length + 1)) := by
  unfold f5_push
  rw [k64, if_neg (nle (by omega) (by omega) (by omega)), nn_nat (by omega), if_neg (ng (by omega) (by omega)), lt_df, lt_df, nn_succ]
theorem m_push {f : Nat → Int64} {v : Int64} {r : List Int64} (hl : r.length < 64) : f12_push f (nn r.length) v = some (vp_updL f r.length v, nn (r.length + 1)) := by
  unfold f12_push
  rw [nn_nat (by omega), if_neg (ng (by omega) (by omega)), lt_df, lt_df, nn_succ]
theorem c_pop {f : Nat → Int64} {v : Int64} {r : List Int64} (hl : r.length < 64) (h : stkR f (v :: r)) : f5_pop f (nn (r.length + 1)) = some (v, nn r.length) := by
  unfold f5_pop
  rw [if_pos (show (0 : Int32) < nn (r.length + 1) from nltT (a := 0) (by omega) (by omega) (by omega)), lt_df, nn_pred', nn_nat (by omega), if_neg (ng (by omega) (by omega)), lt_df, h.1]
theorem m_pop {f : Nat → Int64} {v : Int64} {r : List Int64} (hl : r.length < 64) (h : stkR f (v :: r)) : f12_pop f (nn (r.length + 1)) = some (v, nn r.length) := by
  unfold f12_pop
  rw [lt_df, nn_pred', nn_nat (by omega), if_neg (ng (by omega) (by omega)), lt_df, h.1]
theorem lgc_lt {x y : Int64} : (lg_cmp x y < 0) = (x < y) := by
  have := lg_cmp_ge x y
  refine propext ?_
  rw [← Int32.not_le, ← Int64.not_le, this]
theorem lgc_gt {x y : Int64} : (0 < lg_cmp x y) = (y < x) := by
  have := lg_cmp_le x y
  refine propext ?_
  rw [← Int32.not_le, ← Int64.not_le, this]
theorem lgc_eq {x y : Int64} : (lg_cmp x y = 0) = (x = y) := by
  refine propext ?_
  unfold lg_cmp
  constructor
  · intro h
    by_cases h1 : x > y
    · rw [if_pos h1] at h; exact absurd h (by decide)
    · rw [if_neg h1] at h
      by_cases h2 : x = y
      · exact h2
      · rw [if_neg h2] at h; exact absurd h (by decide)
  · rintro rfl
    rw [if_neg (Int64.lt_irrefl), if_pos rfl]
theorem m_one {s : Nat} (h2 : 2 ≤ s) (h : s ≤ 14) (hs : s ≠ 11) (x y : Int64) : f12_one (nn s) x y = some (ap s x y) := by
  unfold f12_one f12_one_J172 ap
  rw [nn_int (by omega)]
  simp only [lg_cmp_ge, lg_cmp_le, lgc_lt, lgc_gt, lgc_eq, lt_df]
  rcases (show s = 2 ∨ s = 3 ∨ s = 4 ∨ s = 5 ∨ s = 6 ∨ s = 7 ∨ s = 8 ∨ s = 9 ∨ s = 10 ∨ s = 12 ∨ s = 13 ∨ s = 14 by omega) with rfl | rfl | rfl | rfl | rfl | rfl | rfl | rfl | rfl | rfl | rfl | rfl <;> simp
  · by_cases h : y = 0 <;> simp [h]
  · by_cases h : x < y
    · rw [if_pos h, if_neg (Int64.not_le.mpr h)]
    · rw [if_neg h, if_pos (Int64.not_lt.mp h)]
  · by_cases h : x ≤ y
    · rw [if_pos h, if_neg (Int64.not_lt.mpr h)]
    · rw [if_neg h, if_pos (Int64.not_le.mp h)]
  · by_cases h : x = y <;> simp [h]
  · by_cases h : y ≤ x
    · rw [if_pos h, if_neg (Int64.not_lt.mpr h)]
    · rw [if_neg h, if_pos (Int64.not_le.mp h)]
  · by_cases h : y < x
    · rw [if_pos h, if_neg (Int64.not_le.mpr h)]
    · rw [if_neg h, if_pos (Int64.not_lt.mp h)]
  · by_cases h : y = 0 <;> simp [h]
theorem c_joined {s : Nat} (h2 : 2 ≤ s) (h : s ≤ 14) (hs : s ≠ 11) (x y : Int64) : f5_joined (nn (opC s)) x y = some (ap s x y) := by
  unfold f5_joined ap
  rw [nn_int (by unfold opC; split <;> omega)]
  simp only [lg_cmp_ge, lg_cmp_le, lgc_lt, lgc_gt, lgc_eq, lt_df]
  rcases (show s = 2 ∨ s = 3 ∨ s = 4 ∨ s = 5 ∨ s = 6 ∨ s = 7 ∨ s = 8 ∨ s = 9 ∨ s = 10 ∨ s = 12 ∨ s = 13 ∨ s = 14 by omega) with rfl | rfl | rfl | rfl | rfl | rfl | rfl | rfl | rfl | rfl | rfl | rfl <;> simp [opC]
  · by_cases h : y = 0 <;> simp [h]
  · by_cases h : x < y
    · rw [if_pos h, if_neg (Int64.not_le.mpr h)]
    · rw [if_neg h, if_pos (Int64.not_lt.mp h)]
  · by_cases h : x ≤ y
    · rw [if_pos h, if_neg (Int64.not_lt.mpr h)]
    · rw [if_neg h, if_pos (Int64.not_le.mp h)]
  · by_cases h : x = y <;> simp [h]
  · by_cases h : y ≤ x
    · rw [if_pos h, if_neg (Int64.not_lt.mpr h)]
    · rw [if_neg h, if_pos (Int64.not_le.mp h)]
  · by_cases h : y < x
    · rw [if_pos h, if_neg (Int64.not_le.mpr h)]
    · rw [if_neg h, if_pos (Int64.not_lt.mp h)]
  · by_cases h : y = 0 <;> simp [h]
theorem nne {a b : Nat} (ha : a < 2147483648) (hb : b < 2147483648) (h : ¬ a = b) : ¬ nn a = nn b := fun h2 => h (nn_inj ha hb h2)
