/-! a rule's text: the reference's steps in a test -/
abbrev R10 : Type := Int32 × (Nat → Int32) × (Nat → Int32) × Int32 × Int32 × Int32 × Int32 × Int32 × (Nat → Int32) × Int32
theorem stpT_l {tape : Nat → Int32} {tn tx : Int32} {f : Nat} (z : (Nat → Int32) × (Nat → Int32) × Int32 × Int32 × Int32 × Int32 × Int32 × (Nat → Int32) × Int32 × Int32) : stpT tape tn tx f (some (.inl z)) = iter (TLl tape tn tx) f z := rfl
def RC (tape : Nat → Int32) (n k i : Nat) (st : List Nat) (u : Nat) (sgn len op : Nat → Int32) (num : Int32) (out : R10) : Prop := ∀ f1 f2, n - i + 1 < f1 → n - i + 1 < f2 → runC tape (nn n) (nn k) f1 f2 sgn len (nn i) (nn (dcnt st)) (nn st.length) num (nn u) op = some out
def RF (tape : Nat → Int32) (n k i : Nat) (st : List Nat) (u : Nat) (sgn len op : Nat → Int32) (num : Int32) (out : R10) : Prop := ∀ f1 f2, n - i + 1 < f1 → n - i + 1 < f2 → runF tape (nn n) (nn k) f1 f2 sgn len (nn i) (nn (dcnt st)) (nn st.length) num (nn u) op = some out
def Fl (k : Nat) (sg0 : Nat → Int32) (w : Nat) (out : R10) : Prop := out.1 = 0 ∧ out.2.2.2.2.1 = nn w ∧ FR k sg0 out.2.1
theorem dcnt_app : ∀ a c : List Nat, dcnt (a ++ c) = dcnt a + dcnt c
  | [], c => by show dcnt c = 0 + dcnt c; omega
  | v :: a, c => by
    show (if v = 11 ∨ v = 91 then 1 else 0) + dcnt (a ++ c) = (if v = 11 ∨ v = 91 then 1 else 0) + dcnt a + dcnt c
    rw [dcnt_app a c]; omega
section
variable {b : Nat → Nat} {bytes tape : Nat → Int32} {n i j s e k u : Nat} {sg0 sgn len op : Nat → Int32} {num : Int32} {its : List (Nat × Nat)}
theorem wdN : (7237492 : Int64) = lN (pkW ((rowW 5).getD 0 [])) := cw5_0
theorem F_not {st : List Nat} (hx : TX b bytes tape n) (h : Rn isSp b n i s) (hL : Rn isLe b n s e) (hse : s < e) (hw : ∀ j, Rn isSp b n j s → f12_isWord tape (nn n) (nn j) (lN (pkW ((rowW 5).getD 0 []))) = some (1, nn s)) (hd : dcnt st < 10) (hl : st.length ≤ i) {out : R10} (hr : RF tape n k e (11 :: st) u sgn len (upd op st.length (nn 11)) num out) : RF tape n k i st u sgn len op num out := by
  intro f1 f2 h1 h2
  have hn := hx.1
  have his := h.1
  have hen := hL.2.1
  obtain ⟨f, rfl⟩ : ∃ f, f1 = f + 1 := ⟨f1 - 1, by omega⟩
  have hr2 := hr f f2 (by omega) (by omega)
  rw [← hr2]
  unfold runF
  have hd2 : dcnt (11 :: st) = dcnt st + 1 := by show (if (11 : Nat) = 11 ∨ (11 : Nat) = 91 then 1 else 0) + dcnt st = _; rw [if_pos (Or.inl rfl)]; omega
  have step : FLl tape (nn n) sgn len num (nn u) (nn i, (0 : Int32), nn (dcnt st), op, nn st.length, (1 : Int32)) = some (.inl (nn e, 0, nn (dcnt (11 :: st)), upd op st.length (nn 11), nn (11 :: st).length, 1)) := by
    unfold FLl f12_fact_B2
    dsimp only
    rw [if_neg (show ¬ (1 : Int32) = 0 by decide), m_see hx h, bnd2_s, wdN, hw s h.mid, bnd2_s, if_neg (show ¬ (1 : Int32) = 0 by decide)]
    unfold f12_opens
    rw [if_neg (show ¬ nn (dcnt st) = 10 from nne (b := 10) (by omega) (by decide) (by omega)), nn_succ, lt_df, nn_nat (show st.length < 2147483648 by omega), if_neg (ng (by omega) (by omega)), lt_df, nn_succ, lt_df, bnd5_s, if_neg (show ¬ (1 : Int32) = 0 by decide), m_passWord hx hL, bnd1_s, hd2]
    rfl
  rw [iter_l step f]
theorem F_notD {st : List Nat} (hx : TX b bytes tape n) (h : Rn isSp b n i s) (hw : ∀ j, Rn isSp b n j s → f12_isWord tape (nn n) (nn j) (lN (pkW ((rowW 5).getD 0 []))) = some (1, nn s)) (hd : dcnt st = 10) (hfr : FR k sg0 sgn) : ∃ out, Fl k sg0 (1 + 8 * s + 2) out ∧ RF tape n k i st u sgn len op num out := by
  refine ⟨(0, sgn, len, nn s, nn (1 + 8 * s + 2), num, nn u, nn (dcnt st), op, nn st.length), ⟨rfl, rfl, hfr⟩, fun f1 f2 h1 h2 => ?_⟩
  obtain ⟨f, rfl⟩ : ∃ f, f1 = f + 1 := ⟨f1 - 1, by omega⟩
  have step : FLl tape (nn n) sgn len num (nn u) (nn i, (0 : Int32), nn (dcnt st), op, nn st.length, (1 : Int32)) = some (.inr (.inl (0, sgn, len, nn s, nn (1 + 8 * s + 2), num, nn u, nn (dcnt st), op, nn st.length))) := by
    unfold FLl f12_fact_B2
    dsimp only
    rw [if_neg (show ¬ (1 : Int32) = 0 by decide), m_see hx h, bnd2_s, wdN, hw s h.mid, bnd2_s, if_neg (show ¬ (1 : Int32) = 0 by decide)]
    unfold f12_opens
    rw [if_pos (show nn (dcnt st) = 10 by rw [hd]; rfl), show f12_fails 0 2 (nn s) = _ from m_fails s 2, bnd2_s, if_pos (Or.inl rfl), bnd5_s, if_pos rfl]
  unfold runF finT
  rw [iter_r step f, bndS5_l, bnd10_s, if_pos rfl, bndS9_l]
theorem F_open {st : List Nat} (hx : TX b bytes tape n) (h : Rn isSp b n i s) (hs : s < n) (hb : b s = 91) (hw : ∀ j, Rn isSp b n j s → f12_isWord tape (nn n) (nn j) (lN (pkW ((rowW 5).getD 0 []))) = some (0, nn s)) (hd : dcnt st < 10) (hl : st.length ≤ i) {out : R10} (hr : RF tape n k (s + 1) (91 :: st) u sgn len (upd op st.length (nn 91)) num out) : RF tape n k i st u sgn len op num out := by
  intro f1 f2 h1 h2
  have hn := hx.1
  have his := h.1
  obtain ⟨f, rfl⟩ : ∃ f, f1 = f + 1 := ⟨f1 - 1, by omega⟩
  have hr2 := hr f f2 (by omega) (by omega)
  rw [← hr2]
  unfold runF
  have hd2 : dcnt (91 :: st) = dcnt st + 1 := by show (if (91 : Nat) = 11 ∨ (91 : Nat) = 91 then 1 else 0) + dcnt st = _; rw [if_pos (Or.inr rfl)]; omega
  have step : FLl tape (nn n) sgn len num (nn u) (nn i, (0 : Int32), nn (dcnt st), op, nn st.length, (1 : Int32)) = some (.inl (nn (s + 1), 0, nn (dcnt (91 :: st)), upd op st.length (nn 91), nn (91 :: st).length, 1)) := by
    unfold FLl f12_fact_B2
    dsimp only
    rw [if_neg (show ¬ (1 : Int32) = 0 by decide), m_see hx h, bnd2_s, wdN, hw s h.mid, bnd2_s, if_pos rfl, if_pos hs, hb, if_pos (show nn 91 = 91 from rfl)]
    unfold f12_opens
    rw [if_neg (show ¬ nn (dcnt st) = 10 from nne (b := 10) (by omega) (by decide) (by omega)), nn_succ, lt_df, nn_nat (show st.length < 2147483648 by omega), if_neg (ng (by omega) (by omega)), lt_df, nn_succ, lt_df, bnd5_s, if_neg (show ¬ (1 : Int32) = 0 by decide), nn_succ, lt_df, hd2]
    rfl
  rw [iter_l step f]
theorem F_openD {st : List Nat} (hx : TX b bytes tape n) (h : Rn isSp b n i s) (hs : s < n) (hb : b s = 91) (hw : ∀ j, Rn isSp b n j s → f12_isWord tape (nn n) (nn j) (lN (pkW ((rowW 5).getD 0 []))) = some (0, nn s)) (hd : dcnt st = 10) (hfr : FR k sg0 sgn) : ∃ out, Fl k sg0 (1 + 8 * s + 2) out ∧ RF tape n k i st u sgn len op num out := by
  refine ⟨(0, sgn, len, nn s, nn (1 + 8 * s + 2), num, nn u, nn (dcnt st), op, nn st.length), ⟨rfl, rfl, hfr⟩, fun f1 f2 h1 h2 => ?_⟩
  obtain ⟨f, rfl⟩ : ∃ f, f1 = f + 1 := ⟨f1 - 1, by omega⟩
  have step : FLl tape (nn n) sgn len num (nn u) (nn i, (0 : Int32), nn (dcnt st), op, nn st.length, (1 : Int32)) = some (.inr (.inl (0, sgn, len, nn s, nn (1 + 8 * s + 2), num, nn u, nn (dcnt st), op, nn st.length))) := by
    unfold FLl f12_fact_B2
    dsimp only
    rw [if_neg (show ¬ (1 : Int32) = 0 by decide), m_see hx h, bnd2_s, wdN, hw s h.mid, bnd2_s, if_pos rfl, if_pos hs, hb, if_pos (show nn 91 = 91 from rfl)]
    unfold f12_opens
    rw [if_pos (show nn (dcnt st) = 10 by rw [hd]; rfl), show f12_fails 0 2 (nn s) = _ from m_fails s 2, bnd2_s, if_pos (Or.inl rfl), bnd5_s, if_pos rfl]
  unfold runF finT
  rw [iter_r step f, bndS5_l, bnd10_s, if_pos rfl, bndS9_l]
theorem F_plain {st : List Nat} (hx : TX b bytes tape n) (h : Rn isSp b n i s) (hb : s < n → b s ≠ 91) (hw : ∀ j, Rn isSp b n j s → f12_isWord tape (nn n) (nn j) (lN (pkW ((rowW 5).getD 0 []))) = some (0, nn s)) (f : Nat) : iter (FLl tape (nn n) sgn len num (nn u)) (f + 2) (nn i, (0 : Int32), nn (dcnt st), op, nn st.length, (1 : Int32)) = some (.inr (nn s, 0, nn (dcnt st), op, nn st.length)) := by
  have step : FLl tape (nn n) sgn len num (nn u) (nn i, (0 : Int32), nn (dcnt st), op, nn st.length, (1 : Int32)) = some (.inl (nn s, 0, nn (dcnt st), op, nn st.length, 0)) := by
    unfold FLl f12_fact_B2
    dsimp only
    rw [if_neg (show ¬ (1 : Int32) = 0 by decide), m_see hx h, bnd2_s, wdN, hw s h.mid, bnd2_s, if_pos rfl, if_neg (show ¬ (if s < n then nn (b s) else (-1 : Int32)) = 91 from seeV (c := 91) hx (by decide) (fun q => hb q.1 q.2))]
  have step2 : FLl tape (nn n) sgn len num (nn u) (nn s, (0 : Int32), nn (dcnt st), op, nn st.length, (0 : Int32)) = some (.inr (.inr (nn s, 0, nn (dcnt st), op, nn st.length))) := by
    unfold FLl f12_fact_B2
    dsimp only
    rw [if_pos rfl]
  rw [iter_l step (f + 1)]
  exact iter_r step2 f
/-- behind a comparison: the nots that wait are laid -/
theorem F_cmp {nots st1 : List Nat} {s1 u1 : Nat} {num1 : Int32} {sgn1 len1 : Nat → Int32} {ir : List (Nat × Nat)} (hk : k < 6) (hx : TX b bytes tape n) (h : Rn isSp b n i s) (hb : s < n → b s ≠ 91) (hw : ∀ j, Rn isSp b n j s → f12_isWord tape (nn n) (nn j) (lN (pkW ((rowW 5).getD 0 []))) = some (0, nn s)) (hcmp : f12_compare tape (nn n) sgn len (nn s) 0 num (nn k) (nn u) = some (1, sgn1, len1, nn s1, 0, num1, nn u1)) (hno : ∀ o, o ∈ nots → o = 11) (hst : st1 = [] ∨ ∃ v r, st1 = v :: r ∧ v ≠ 11 ∧ v < 1000) (hM : CM k sg0 sgn1 len1 ir) (hS : SKr op (nots ++ st1)) (hl : ir.length + (nots ++ st1).length ≤ 400) (his1 : i < s1) (hs1 : s1 ≤ n) : ∃ sgn2 len2, CM k sg0 sgn2 len2 (ir ++ itm nots) ∧ SKr op st1 ∧ ∀ out, RC tape n k s1 st1 u1 sgn2 len2 op num1 out → RF tape n k i (nots ++ st1) u sgn len op num out := by
  obtain ⟨sgn2, len2, m1, m2⟩ := m_settles (least := 3) hk (by decide) (by decide) (fun o ho => by rw [hno o ho]; decide) (by
    rcases hst with h | ⟨v, r, h1, h2, h3⟩
    · exact Or.inl h
    · refine Or.inr ⟨v, r, h1, ?_, h3⟩
      unfold stg
      by_cases c1 : v = 13
      · rw [if_pos c1]; decide
      · rw [if_neg c1]
        by_cases c2 : v = 12
        · rw [if_pos c2]; decide
        · rw [if_neg c2, if_neg h2]; decide) hM hS hl
  refine ⟨sgn2, len2, m2, SKr_drop hS, fun out hr f1 f2 h1 h2 => ?_⟩
  have hn := hx.1
  obtain ⟨f, rfl⟩ : ∃ f, f1 = f + 2 := ⟨f1 - 2, by omega⟩
  have hF : 402 < FUEL := by decide
  have hr2 := hr FUEL f2 (by omega) (by omega)
  rw [← hr2]
  unfold runF runC
  rw [F_plain hx h hb hw f, bndS5_r, hcmp, bnd7_s, if_pos (Or.inr rfl), bnd10_s, if_neg (show ¬ (1 : Int32) = 0 by decide), clo, show f12_settles sgn1 len1 (nn k) (nn (dcnt (nots ++ st1))) op (nn (nots ++ st1).length) 3 = _ from m1, bnd4_s]
theorem F_cmpD {st : List Nat} {w : Nat} {num1 nx1 ma1 : Int32} {sgn1 len1 : Nat → Int32} (hx : TX b bytes tape n) (h : Rn isSp b n i s) (hb : s < n → b s ≠ 91) (hw : ∀ j, Rn isSp b n j s → f12_isWord tape (nn n) (nn j) (lN (pkW ((rowW 5).getD 0 []))) = some (0, nn s)) (hcmp : f12_compare tape (nn n) sgn len (nn s) 0 num (nn k) (nn u) = some (0, sgn1, len1, nx1, nn w, num1, ma1)) (hfr : FR k sg0 sgn1) : ∃ out, Fl k sg0 w out ∧ RF tape n k i st u sgn len op num out := by
  refine ⟨(0, sgn1, len1, nx1, nn w, num1, ma1, nn (dcnt st), op, nn st.length), ⟨rfl, rfl, hfr⟩, fun f1 f2 h1 h2 => ?_⟩
  obtain ⟨f, rfl⟩ : ∃ f, f1 = f + 2 := ⟨f1 - 2, by omega⟩
  unfold runF finT
  rw [F_plain hx h hb hw f, bndS5_r, hcmp, bnd7_s, if_pos (Or.inl rfl), bnd10_s, if_pos rfl, bndS9_l]
/-- the closes loop ends at once -/
theorem C_stop {st : List Nat} (hx : TX b bytes tape n) (h : Rn isSp b n i s) (hb : s < n → b s ≠ 93) (f : Nat) : iter (CLl tape (nn n) (nn k) op) (f + 1) (sgn, len, nn i, nn (dcnt st), nn st.length) = some (sgn, len, nn s, nn (dcnt st), nn st.length) := by
  refine iter_r ?_ f
  unfold CLl f12_closes_B5
  dsimp only
  rw [m_see hx h, bnd2_s, if_neg (show ¬ (if s < n then nn (b s) else (-1 : Int32)) = 93 from seeV (c := 93) hx (by decide) (fun q => hb q.1 q.2))]
theorem wdA : (6385252 : Int64) = lN (pkW ((rowW 3).getD 0 [])) := cw3_0
theorem wdO : (28530 : Int64) = lN (pkW ((rowW 4).getD 0 [])) := cw4_0
/-- and, or -/
theorem C_word {o : Nat} {pops rest : List Nat} (hk : k < 6) (hx : TX b bytes tape n) (h : Rn isSp b n i s) (hL : Rn isLe b n s e) (hse : s < e) (ho : (o = 12 ∧ ∀ j, Rn isSp b n j s → f12_isWord tape (nn n) (nn j) (lN (pkW ((rowW 3).getD 0 []))) = some (1, nn s)) ∨ (o = 13 ∧ (∀ j, Rn isSp b n j s → f12_isWord tape (nn n) (nn j) (lN (pkW ((rowW 3).getD 0 []))) = some (0, nn s)) ∧ ∀ j, Rn isSp b n j s → f12_isWord tape (nn n) (nn j) (lN (pkW ((rowW 4).getD 0 []))) = some (1, nn s)))
    (hpo : ∀ v, v ∈ pops → stg o ≤ stg v) (hst : rest = [] ∨ ∃ v r, rest = v :: r ∧ stg v < stg o ∧ v < 1000) (hM : CM k sg0 sgn len its) (hS : SKr op (pops ++ rest)) (hl : its.length + (pops ++ rest).length ≤ i) :
    ∃ sgn1 len1, CM k sg0 sgn1 len1 (its ++ itm pops) ∧ SKr (upd op rest.length (nn o)) (o :: rest) ∧ ∀ out, RF tape n k e (o :: rest) u sgn1 len1 (upd op rest.length (nn o)) num out → RC tape n k i (pops ++ rest) u sgn len op num out := by
  have hn := hx.1
  have his := h.1
  have hen := hL.2.1
  have ho2 : o = 12 ∨ o = 13 := ho.elim (fun h => Or.inl h.1) (fun h => Or.inr h.1)
  have hstg : 1 ≤ stg o ∧ stg o ≤ 3 := by rcases ho2 with rfl | rfl <;> decide
  obtain ⟨sgn1, len1, m1, m2⟩ := m_settles (least := stg o) hk hstg.1 hstg.2 hpo hst hM hS (by omega)
  have hSr := SKr_drop hS
  rw [List.length_append] at hl
  have hlet : s < n ∧ isLe (b s) = true := ⟨by omega, hL.2.2.1 s (Nat.le_refl _) hse⟩
  have hb93 : s < n → b s ≠ 93 := fun _ h => by have := isLe_iff.mp hlet.2; omega
  have hdc : dcnt (o :: rest) = dcnt rest := by
    show (if o = 11 ∨ o = 91 then 1 else 0) + dcnt rest = dcnt rest
    rw [if_neg (by omega)]; omega
  refine ⟨sgn1, len1, m2, SKr_push hSr, fun out hr f1 f2 h1 h2 => ?_⟩
  obtain ⟨f, rfl⟩ : ∃ f, f1 = f + 1 := ⟨f1 - 1, by omega⟩
  obtain ⟨g, rfl⟩ : ∃ g, f2 = g + 1 := ⟨f2 - 1, by omega⟩
  have hF : 402 < FUEL := by decide
  have hr2 := hr FUEL g (by omega) (by omega)
  rw [hdc, ← runF_loop] at hr2
  have hj76 : ∀ t, f12_tested_J76 tape (nn n) (nn k) sgn len (nn s) 0 num (nn u) (nn (dcnt (pops ++ rest))) op (nn (pops ++ rest).length) t (nn o) = some (.inl (sgn1, len1, nn e, 0, num, nn u, nn (dcnt rest), upd op rest.length (nn o), nn (rest.length + 1), t)) := by
    intro t
    unfold f12_tested_J76
    rw [m_passWord hx hL, bnd1_s, m_stg (by omega), bnd1_s, m1, bnd4_s, nn_nat (show rest.length < 2147483648 by omega), if_neg (ng (by omega) (by omega)), lt_df, nn_succ, lt_df]
  have htC : tC tape (nn n) (nn k) 0 num (nn u) op sgn len (nn s) (nn (dcnt (pops ++ rest))) (nn (pops ++ rest).length) = some (.inl (sgn1, len1, nn e, 0, num, nn u, nn (dcnt rest), upd op rest.length (nn o), nn (rest.length + 1), 1)) := by
    unfold tC f12_tested_J49 f12_tested_J54
    rw [wdA, wdO]
    rcases ho with ⟨rfl, w1⟩ | ⟨rfl, w1, w2⟩
    · rw [w1 s h.mid, bnd2_s, if_neg (show ¬ (1 : Int32) = 0 by decide), if_neg (show ¬ (1 : Int32) = 0 by decide), w1 s h.mid, bnd2_s, if_neg (show ¬ (1 : Int32) = 0 by decide)]
      exact hj76 1
    · rw [w1 s h.mid, bnd2_s, if_pos rfl, w2 s h.mid, bnd2_s, if_neg (show ¬ (1 : Int32) = 0 by decide), if_neg (show ¬ (1 : Int32) = 0 by decide), w1 s h.mid, bnd2_s, if_pos rfl]
      exact hj76 1
  unfold runC
  rw [C_stop hx h hb93 f, bnd5_s, htC]
  exact hr2
/-- a bracket that closes -/
theorem C_close {ops nots st1 : List Nat} (hk : k < 6) (hx : TX b bytes tape n) (h : Rn isSp b n i s) (hs : s < n) (hb : b s = 93) (hops : ∀ o, o ∈ ops → o = 12 ∨ o = 13) (hno : ∀ o, o ∈ nots → o = 11) (hst : st1 = [] ∨ ∃ v r, st1 = v :: r ∧ v ≠ 11 ∧ v < 1000) (hv1 : ∀ v, v ∈ st1 → v < 1000) (hM : CM k sg0 sgn len its) (hS : SKr op (ops ++ (91 :: (nots ++ st1)))) (hl : its.length + (ops ++ (91 :: (nots ++ st1))).length ≤ i) :
    ∃ sgn1 len1, CM k sg0 sgn1 len1 (its ++ itm ops ++ itm nots) ∧ SKr op st1 ∧ ∀ out, RC tape n k (s + 1) st1 u sgn1 len1 op num out → RC tape n k i (ops ++ (91 :: (nots ++ st1))) u sgn len op num out := by
  have hn := hx.1
  have his := h.1
  obtain ⟨sgn1, len1, m1, m2⟩ := m_settles (least := 1) (st := 91 :: (nots ++ st1)) hk (by decide) (by decide) (fun o ho => by rcases hops o ho with h | h <;> rw [h] <;> decide) (Or.inr ⟨91, nots ++ st1, rfl, by decide, by decide⟩) hM hS (by omega)
  have hS2 : SKr op (nots ++ st1) := (SKr_drop hS).2
  have hll : (ops ++ (91 :: (nots ++ st1))).length = ops.length + ((nots ++ st1).length + 1) := List.length_append
  have hlo : (its ++ itm ops).length = its.length + ops.length := by rw [List.length_append]; unfold itm; rw [List.length_map]
  rw [hll] at hl
  obtain ⟨sgn2, len2, m3, m4⟩ := m_settles (least := 3) hk (by decide) (by decide) (fun o ho => by rw [hno o ho]; decide) (by
    rcases hst with h | ⟨v, r, h1, h2, h3⟩
    · exact Or.inl h
    · refine Or.inr ⟨v, r, h1, ?_, h3⟩
      unfold stg
      by_cases c1 : v = 13
      · rw [if_pos c1]; decide
      · rw [if_neg c1]
        by_cases c2 : v = 12
        · rw [if_pos c2]; decide
        · rw [if_neg c2, if_neg h2]; decide) m2 hS2 (by omega)
  have hins := m_inside hS (by omega) (fun v hv => by
    rcases List.mem_append.mp hv with h | h
    · rcases hops v h with h | h <;> rw [h] <;> decide
    · rcases List.mem_cons.mp h with h | h
      · rw [h]; decide
      · rcases List.mem_append.mp h with h | h
        · rw [hno v h]; decide
        · exact hv1 v h)
  rw [if_pos (List.mem_append_right _ List.mem_cons_self)] at hins
  have hd2 : dcnt (91 :: (nots ++ st1)) = dcnt (nots ++ st1) + 1 := by show (if (91 : Nat) = 11 ∨ (91 : Nat) = 91 then 1 else 0) + dcnt (nots ++ st1) = _; rw [if_pos (Or.inr rfl)]; omega
  have hl2 : (91 :: (nots ++ st1)).length = (nots ++ st1).length + 1 := rfl
  refine ⟨sgn2, len2, m4, SKr_drop hS2, fun out hr f1 f2 h1 h2 => ?_⟩
  obtain ⟨f, rfl⟩ : ∃ f, f1 = f + 1 := ⟨f1 - 1, by omega⟩
  have hr2 := hr f f2 (by omega) (by omega)
  rw [← hr2]
  have step : CLl tape (nn n) (nn k) op (sgn, len, nn i, nn (dcnt (ops ++ (91 :: (nots ++ st1)))), nn (ops ++ (91 :: (nots ++ st1))).length) = some (.inl (sgn2, len2, nn (s + 1), nn (dcnt st1), nn st1.length)) := by
    unfold CLl f12_closes_B5
    dsimp only
    rw [m_see hx h, bnd2_s, if_pos hs, hb, if_pos (show nn 93 = 93 from rfl), hins, bnd1_s, if_neg (show ¬ (1 : Int32) = 0 by decide), show f12_settles sgn len (nn k) (nn (dcnt (ops ++ (91 :: (nots ++ st1))))) op (nn (ops ++ (91 :: (nots ++ st1))).length) 1 = _ from m1, bnd4_s, hd2, hl2, nn_pred', nn_pred', lt_df, lt_df, nn_succ, lt_df, show f12_settles sgn1 len1 (nn k) (nn (dcnt (nots ++ st1))) op (nn (nots ++ st1).length) 3 = _ from m3, bnd4_s]
  unfold runC
  rw [iter_l step f]
/-- the text goes on otherwise than a test does -/
theorem C_out {st : List Nat} (hx : TX b bytes tape n) (h : Rn isSp b n i s) (hbr : (s < n → b s ≠ 93) ∨ f12_isInside op (nn st.length) = some 0) (hA : ∀ j, Rn isSp b n j s → f12_isWord tape (nn n) (nn j) (lN (pkW ((rowW 3).getD 0 []))) = some (0, nn s)) (hO : ∀ j, Rn isSp b n j s → f12_isWord tape (nn n) (nn j) (lN (pkW ((rowW 4).getD 0 []))) = some (0, nn s)) (f g : Nat) : runC tape (nn n) (nn k) (f + 1) (g + 1) sgn len (nn i) (nn (dcnt st)) (nn st.length) num (nn u) op = finT tape (nn n) (nn k) (some (.inr (sgn, len, nn s, 0, num, nn u, nn (dcnt st), op, nn st.length))) := by
  have hit : iter (CLl tape (nn n) (nn k) op) (f + 1) (sgn, len, nn i, nn (dcnt st), nn st.length) = some (sgn, len, nn s, nn (dcnt st), nn st.length) := by
    rcases hbr with h2 | h2
    · exact C_stop hx h h2 f
    · refine iter_r ?_ f
      unfold CLl f12_closes_B5
      dsimp only
      rw [m_see hx h, bnd2_s]
      by_cases c : (if s < n then nn (b s) else (-1 : Int32)) = 93
      · rw [if_pos c, h2, bnd1_s, if_pos rfl]
      · rw [if_neg c]
  have htC : tC tape (nn n) (nn k) 0 num (nn u) op sgn len (nn s) (nn (dcnt st)) (nn st.length) = some (.inl (sgn, len, nn s, 0, num, nn u, nn (dcnt st), op, nn st.length, 0)) := by
    unfold tC f12_tested_J54
    rw [wdA, wdO, hA s h.mid, bnd2_s, if_pos rfl, hO s h.mid, bnd2_s, if_pos rfl, if_pos rfl]
  have hT : TLl tape (nn n) (nn k) (sgn, len, nn s, (0 : Int32), num, nn u, nn (dcnt st), op, nn st.length, (0 : Int32)) = some (.inr (.inr (sgn, len, nn s, 0, num, nn u, nn (dcnt st), op, nn st.length))) := by
    unfold TLl f12_tested_B12
    dsimp only
    rw [if_pos rfl]
  unfold runC
  rw [hit, bnd5_s, htC]
  rw [stpT_l, iter_r hT g]
theorem C_bad {st : List Nat} (hx : TX b bytes tape n) (h : Rn isSp b n i s) (hbr : s < n → b s ≠ 93) (hA : ∀ j, Rn isSp b n j s → f12_isWord tape (nn n) (nn j) (lN (pkW ((rowW 3).getD 0 []))) = some (0, nn s)) (hO : ∀ j, Rn isSp b n j s → f12_isWord tape (nn n) (nn j) (lN (pkW ((rowW 4).getD 0 []))) = some (0, nn s)) (hin : f12_isInside op (nn st.length) = some 1) (hfr : FR k sg0 sgn) : ∃ out, Fl k sg0 (1 + 8 * s + 0) out ∧ RC tape n k i st u sgn len op num out := by
  refine ⟨(0, sgn, len, nn s, nn (1 + 8 * s + 0), num, nn u, nn (dcnt st), op, nn st.length), ⟨rfl, rfl, hfr⟩, fun f1 f2 h1 h2 => ?_⟩
  obtain ⟨f, rfl⟩ : ∃ f, f1 = f + 1 := ⟨f1 - 1, by omega⟩
  obtain ⟨g, rfl⟩ : ∃ g, f2 = g + 1 := ⟨f2 - 1, by omega⟩
  rw [C_out hx h (Or.inl hbr) hA hO f g]
  unfold finT
  rw [bndS9_r, hin, bnd1_s, if_neg (show ¬ (1 : Int32) = 0 by decide), m_see hx h.mid, bnd2_s, show f12_fails 0 0 (nn s) = _ from m_fails s 0, bnd2_s, if_pos (Or.inl rfl)]
theorem C_end {ops : List Nat} (hk : k < 6) (hx : TX b bytes tape n) (h : Rn isSp b n i s) (hA : ∀ j, Rn isSp b n j s → f12_isWord tape (nn n) (nn j) (lN (pkW ((rowW 3).getD 0 []))) = some (0, nn s)) (hO : ∀ j, Rn isSp b n j s → f12_isWord tape (nn n) (nn j) (lN (pkW ((rowW 4).getD 0 []))) = some (0, nn s)) (hops : ∀ o, o ∈ ops → o = 12 ∨ o = 13) (hM : CM k sg0 sgn len its) (hS : SKr op ops) (hl : its.length + ops.length ≤ 400) : ∃ sgn1 len1 od1 de1, CM k sg0 sgn1 len1 (its ++ itm ops) ∧ RC tape n k i ops u sgn len op num (1, sgn1, len1, nn s, 0, num, nn u, de1, op, od1) := by
  have hin := m_inside hS (by omega) (fun v hv => by rcases hops v hv with h | h <;> rw [h] <;> decide)
  rw [if_neg (show ¬ 91 ∈ ops from fun h => by rcases hops 91 h with h | h <;> cases h)] at hin
  obtain ⟨sgn1, len1, m1, m2⟩ := m_settles (least := 1) (ops := ops) (st := []) hk (by decide) (by decide) (fun o ho => by rcases hops o ho with h | h <;> rw [h] <;> decide) (Or.inl rfl) hM (by rw [List.append_nil]; exact hS) (by rw [List.append_nil]; exact hl)
  rw [List.append_nil] at m1
  refine ⟨sgn1, len1, nn ([] : List Nat).length, nn (dcnt []), m2, fun f1 f2 h1 h2 => ?_⟩
  obtain ⟨f, rfl⟩ : ∃ f, f1 = f + 1 := ⟨f1 - 1, by omega⟩
  obtain ⟨g, rfl⟩ : ∃ g, f2 = g + 1 := ⟨f2 - 1, by omega⟩
  rw [C_out hx h (Or.inr hin) hA hO f g]
  unfold finT
  rw [bndS9_r, hin, bnd1_s, if_pos rfl, show f12_settles sgn len (nn k) (nn (dcnt ops)) op (nn ops.length) 1 = _ from m1, bnd4_s]
end
