theorem stp_congr {w w2 : Nat → Int64} (hw : ∀ i, i < 13 → w i = w2 i) {x : Nat × Nat} (hx : itOK x) (st : List Int64) : stp w x st = stp w2 x st := by
  unfold stp
  rcases hx with ⟨h, h2⟩ | ⟨h, h2⟩ | ⟨h, h2, h3⟩
  · rw [if_pos h, if_pos h]
  · rw [if_neg (show ¬ x.1 = 0 by omega), if_neg (show ¬ x.1 = 0 by omega), if_pos h, if_pos h, hw _ h2]
  · rw [if_neg (show ¬ x.1 = 0 by omega), if_neg (show ¬ x.1 = 0 by omega), if_neg (show ¬ x.1 = 1 by omega), if_neg (show ¬ x.1 = 1 by omega)]
theorem runI_congr {w w2 : Nat → Int64} (hw : ∀ i, i < 13 → w i = w2 i) : ∀ (a : List (Nat × Nat)) (st : List Int64), (∀ x ∈ a, itOK x) → runI w a st = runI w2 a st
  | [], _, _ => rfl
  | x :: r, st, h => by
    simp only [runI]
    rw [stp_congr hw (h x (List.mem_cons_self ..))]
    split
    · rfl
    · exact runI_congr hw r _ (fun y hy => h y (List.mem_cons_of_mem _ hy))
theorem seg_get {its pre a post : List (Nat × Nat)} (hits : its = pre ++ (a ++ post)) {j : Nat} (h : j < a.length) : ∃ h', its[pre.length + j]'h' = a[j] := by
  have e : its[pre.length + j]? = some a[j] := by
    subst hits
    rw [List.getElem?_append_right (by omega), Nat.add_sub_cancel_left, List.getElem?_append_left h, List.getElem?_eq_getElem h]
  exact List.getElem?_eq_some_iff.mp e
theorem cntP_seg {its pre a post : List (Nat × Nat)} (hits : its = pre ++ (a ++ post)) : cntP a ≤ cntP its := by
  subst hits; rw [cntP_app, cntP_app]; omega
theorem len_seg {its pre a post : List (Nat × Nat)} (hits : its = pre ++ (a ++ post)) : pre.length + a.length ≤ its.length := by
  subst hits; simp only [List.length_append]; omega
theorem fuel_400 {n : Nat} (h : n ≤ 400) : n < FUEL := Nat.lt_of_le_of_lt h (by decide)
theorem m_reckons {its pre a post : List (Nat × Nat)} {k : Nat} {sign : Nat → Int32} {w : Nat → Int64} {v : Int64} (hits : its = pre ++ (a ++ post)) (hk : k < 6) (hl : its.length ≤ 400) (hsg : ∀ i (h : i < its.length), sign (400 * k + i) = nn (encM its[i])) (hok : ∀ x ∈ a, itOK x) (hrun : ∀ st, runI w a st = some (v :: st)) (hc : cntP its ≤ 60) (f : Nat → Int64) (tp : Int32) : ∃ f', f12_reckons sign f tp w (nn k) (nn pre.length) (nn (pre.length + a.length)) = some (v, f', nn 0) := by
  have h1 := len_seg hits
  have h2 := cntP_seg hits
  obtain ⟨f', e, hR⟩ := m_recL (sign := sign) (w := w) (k := k) (hi := pre.length + a.length) hk (by omega) a pre.length FUEL f [] [v] rfl (fun j h => by
    obtain ⟨h', e⟩ := seg_get hits h
    rw [hsg _ h', e]) hok trivial (hrun []) (by simp only [List.length_nil]; omega) (fuel_400 (by omega))
  unfold f12_reckons
  rw [show (0 : Int32) = nn ([] : List Int64).length from rfl, e]
  simp only [bnd2_s]
  rw [show nn [v].length = nn (([] : List Int64).length + 1) from rfl, m_pop (by decide) hR]
  exact ⟨f', rfl⟩
theorem c_result {its pre a post : List (Nat × Nat)} {nc : Nat} {code : Nat → Int32} {w : Nat → Int64} {v : Int64} (hits : its = pre ++ (a ++ post)) (hl : its.length ≤ 400) (hnc : nc = its.length) (hsg : ∀ i (h : i < its.length), code i = nn (encC its[i])) (hok : ∀ x ∈ a, itOK x) (hrun : ∀ st, runI w a st = some (v :: st)) (hc : cntP its ≤ 60) (f : Nat → Int64) (tp : Int32) : ∃ f', f5_result nc code f tp 13 w (nn pre.length) (nn (pre.length + a.length)) = some (v, f', nn 0) := by
  have h1 := len_seg hits
  have h2 := cntP_seg hits
  obtain ⟨f', e, hR⟩ := c_resL (code := code) (w := w) (nc := nc) (hi := pre.length + a.length) (by omega) (by omega) a pre.length FUEL f [] [v] rfl (fun j h => by
    obtain ⟨h', e⟩ := seg_get hits h
    rw [hsg _ h', e]) hok trivial (hrun []) (by simp only [List.length_nil]; omega) (fuel_400 (by omega))
  unfold f5_result
  rw [show (0 : Int32) = nn ([] : List Int64).length from rfl, e]
  simp only [bnd2_s]
  rw [show nn [v].length = nn (([] : List Int64).length + 1) from rfl, c_pop (by decide) hR]
  exact ⟨f', rfl⟩
theorem flt_at {cls : List (List (Nat × Nat) × List (Nat × Nat))} {c : Nat} (h : c < cls.length) : flt cls = flt (cls.take c) ++ (cls[c].1 ++ (cls[c].2 ++ flt (cls.drop (c + 1)))) := by
  have e : cls = cls.take c ++ cls[c] :: cls.drop (c + 1) := by
    rw [← List.drop_eq_getElem_cons h, List.take_append_drop]
  unfold flt
  conv => lhs; rw [e]
  rw [List.flatMap_append, List.flatMap_cons, List.append_assoc]
theorem off_succ {cls : List (List (Nat × Nat) × List (Nat × Nat))} {c : Nat} (h : c < cls.length) : off cls (c + 1) = off cls c + cls[c].1.length + cls[c].2.length := by
  unfold off flt
  rw [List.take_succ_eq_append_getElem h, List.flatMap_append]
  simp only [List.flatMap_cons, List.flatMap_nil, List.append_nil, List.length_append]
  omega
theorem off_le {cls : List (List (Nat × Nat) × List (Nat × Nat))} {c : Nat} : off cls c ≤ (flt cls).length := by
  unfold off flt
  conv => rhs; rw [← List.take_append_drop c cls]
  rw [List.flatMap_append, List.length_append]
  omega
theorem cmp_sgn (u : Int64) : fJ13_compare u 0 = some (if (lg_cmp u (0 : Int64)) ≤ 0 then (if 0 ≤ (lg_cmp u (0 : Int64)) then (0 : Int32) else -1) else 1) := by
  unfold fJ13_compare
  have h : lg_cmp u 0 = 1 ∨ lg_cmp u 0 = 0 ∨ lg_cmp u 0 = -1 := by
    unfold lg_cmp
    by_cases h1 : u > 0
    · rw [if_pos h1]; exact Or.inl rfl
    · rw [if_neg h1]
      by_cases h2 : u = 0
      · rw [if_pos h2]; exact Or.inr (Or.inl rfl)
      · rw [if_neg h2]; exact Or.inr (Or.inr rfl)
  rcases h with h | h | h <;> rw [h] <;> decide
/-- rules that were told alike wish alike -/
theorem rEv {cls : List (List (Nat × Nat) × List (Nat × Nat))} {nc ns nt k : Nat} {code sumEnd testEnd sign clause clauses : Nat → Int32} (hOK : RuOK cls) (hC : RuC cls nc code ns sumEnd nt testEnd) (hM : RuM cls sign clause clauses k) (hk : k < 6) : REv nc code ns sumEnd nt testEnd sign clause clauses (nn k) := by
  intro w w2 stack st top tp hw
  obtain ⟨hl12, hl400, hcnt, hseg⟩ := hOK
  obtain ⟨hnc, rfl, rfl, hcode, hends⟩ := hC
  obtain ⟨hcl, hsign, hclause⟩ := hM
  unfold f5_wish f12_summedBy
  have key := iter_twoF (B := fun (z : (Nat → Int64) × Int32 × Int32 × Int32) => f5_wish_B4 cls.length cls.length testEnd sumEnd nc code 13 w z.1 z.2.1 z.2.2.1 z.2.2.2) (C := fun (z : (Nat → Int64) × Int32 × Int32) => f12_summedBy_B2 (nn k) clauses clause sign w2 z.1 z.2.1 z.2.2) (s := (stack, top, (0 : Int32), (0 : Int32))) (t := (st, tp, (0 : Int32))) (n := cls.length)
    (I := fun n a b => ∃ c, n + c = cls.length ∧ a.2.2.2 = nn c ∧ a.2.2.1 = nn (off cls c) ∧ b.2.2 = nn c)
    (Po := fun a b => (∃ f t g q, a = .inr (f, t) ∧ b = .inr (g, q)) ∨ (∃ v u f t g q, a = .inl (v, f, t) ∧ b = .inl (u, g, q) ∧ (if (lg_cmp u (0 : Int64)) ≤ 0 then (if 0 ≤ (lg_cmp u (0 : Int64)) then (0 : Int32) else -1) else 1) = v))
    ⟨0, rfl, rfl, rfl, rfl⟩ (by omega)
    (by
      rintro n ⟨f, t, s0, i⟩ ⟨g, q, j⟩ ⟨c, hc, rfl, rfl, rfl⟩
      dsimp only
      unfold f5_wish_B4 f12_summedBy_B2
      have k48 : (48 : Int32) = nn 48 := rfl
      rw [nn_nat (a := k) (by omega), if_neg (ng (by omega) (by omega)), hcl, show Int32.ofNat cls.length = nn cls.length from rfl]
      by_cases hend : cls.length ≤ c
      · right
        rw [if_pos (nleT (by omega) (by omega) hend), if_pos (nleT (by omega) (by omega) hend)]
        exact ⟨_, _, rfl, rfl, Or.inl ⟨_, _, _, _, rfl, rfl⟩⟩
      · have hcl' : c < cls.length := by omega
        obtain ⟨hse, hte⟩ := hends c hcl'
        obtain ⟨hm0, hm1, hm2, hm3⟩ := hclause c hcl'
        obtain ⟨hsgS, hsgT⟩ := hseg _ (List.getElem_mem hcl')
        have hflt := flt_at hcl'
        have hos := off_succ hcl'
        have hol := off_le (cls := cls) (c := c + 1)
        obtain ⟨v, hv⟩ := hsgS.2 w
        have hv2 : ∀ st, runI w2 cls[c].1 st = some (v :: st) := fun st => by rw [← runI_congr hw _ _ hsgS.1]; exact hv st
        have hx2 : ¬ ((nn (48 * k + 4 * c) + (2 : Int32)) < 0 ∨ 288 ≤ Int32.toNatClampNeg (nn (48 * k + 4 * c) + (2 : Int32))) := by
          rw [k2, nn_add, nn_nat (by omega)]; exact ng (by omega) (by omega)
        have hx3 : ¬ ((nn (48 * k + 4 * c) + (3 : Int32)) < 0 ∨ 288 ≤ Int32.toNatClampNeg (nn (48 * k + 4 * c) + (3 : Int32))) := by
          rw [k3, nn_add, nn_nat (by omega)]; exact ng (by omega) (by omega)
        have hi2 : Int32.toNatClampNeg (nn (48 * k + 4 * c) + (2 : Int32)) = 48 * k + 4 * c + 2 := by rw [k2, nn_add, nn_nat (by omega)]
        have hi3 : Int32.toNatClampNeg (nn (48 * k + 4 * c) + (3 : Int32)) = 48 * k + 4 * c + 3 := by rw [k3, nn_add, nn_nat (by omega)]
        have hsum : ∀ (f g : Nat → Int64) (t q : Int32), ∃ f' g', f5_wish_J62 cls.length nc code 13 w sumEnd f t (nn (off cls c)) (nn c) = some (.inr (.inl ((if (lg_cmp v (0 : Int64)) ≤ 0 then (if 0 ≤ (lg_cmp v (0 : Int64)) then (0 : Int32) else -1) else 1), f', nn 0))) ∧ f12_summedBy_J58 sign w2 (nn k) clause g q (nn (48 * k + 4 * c)) = some (.inr (.inl (v, g', nn 0))) := by
          intro f g t q
          obtain ⟨f', e1⟩ := c_result (nc := nc) (code := code) hflt hl400 hnc hcode hsgS.1 hv hcnt f t
          obtain ⟨g', e2⟩ := m_reckons (sign := sign) hflt hk hl400 hsign hsgS.1 hv2 hcnt g q
          refine ⟨f', g', ?_, ?_⟩
          · unfold f5_wish_J62
            rw [nn_nat (by omega), if_neg (ng (by omega) hcl'), hse]
            have e1' : f5_result nc code f t 13 w (nn (off cls c)) (nn (off cls c + cls[c].1.length)) = some (v, f', nn 0) := e1
            rw [e1']
            simp only [bnd3_s]
            rw [cmp_sgn]
            rfl
          · unfold f12_summedBy_J58
            have hi1 : Int32.toNatClampNeg (nn (48 * k + 4 * c) + (1 : Int32)) = 48 * k + 4 * c + 1 := by rw [nn_succ, nn_nat (by omega)]
            have hx1 : ¬ ((nn (48 * k + 4 * c) + (1 : Int32)) < 0 ∨ 288 ≤ Int32.toNatClampNeg (nn (48 * k + 4 * c) + (1 : Int32))) := by
              rw [nn_succ, nn_nat (by omega)]; exact ng (by omega) (by omega)
            rw [if_neg hx1, hi1, nn_nat (by omega), if_neg (ng (by omega) (by omega)), hm0, hm1]
            have e2' : f12_reckons sign g q w2 (nn k) (nn (off cls c)) (nn (off cls c + cls[c].1.length)) = some (v, g', nn 0) := e2
            rw [e2']
            rfl
        rw [if_neg (nle (by omega) (by omega) hend), if_neg (nle (by omega) (by omega) hend), k48, k4, nn_mul, nn_mul, nn_add, nn_nat (a := c) (by omega), if_neg (ng (by omega) hcl'), if_neg (ng (by omega) hcl'), hse, hte]
        simp only [lt_df]
        rw [if_neg hx2, if_neg hx2, if_neg hx3, hi2, hi3, hm2, hm3]
        by_cases hb : cls[c].2 = []
        · right
          obtain ⟨f', g', s1, s2⟩ := hsum f g t q
          have hb0 : cls[c].2.length = 0 := by rw [hb]; rfl
          rw [if_pos hb, if_pos (nleT (by omega) (by omega) (by omega)), if_pos (show (-1 : Int32) < 0 by decide), s2]
          unfold f5_wish_J33
          rw [if_pos rfl, s1]
          exact ⟨_, _, rfl, rfl, Or.inr ⟨_, _, _, _, _, _, rfl, rfl, rfl⟩⟩
        · have hT := hsgT.resolve_left hb
          have hb0 : 0 < cls[c].2.length := List.length_pos_iff.mpr hb
          obtain ⟨tv, htv, hrt⟩ := hT.2 w
          have hrt2 : ∀ st, runI w2 cls[c].2 st = some (tv :: st) := fun st => by rw [← runI_congr hw _ _ hT.1]; exact hrt st
          have hflt2 : flt cls = (flt (cls.take c) ++ cls[c].1) ++ (cls[c].2 ++ flt (cls.drop (c + 1))) := by rw [List.append_assoc]; exact hflt
          have hpl : (flt (cls.take c) ++ cls[c].1).length = off cls c + cls[c].1.length := by rw [List.length_append]; rfl
          obtain ⟨f', e1⟩ := c_result (nc := nc) (code := code) hflt2 hl400 hnc hcode hT.1 hrt hcnt f t
          obtain ⟨g', e2⟩ := m_reckons (sign := sign) hflt2 hk hl400 hsign hT.1 hrt2 hcnt g q
          rw [hpl, ← hos] at e1 e2
          rw [if_neg hb, if_neg (nle (by omega) (by omega) (by omega)), if_neg (nlt0 (by omega)), e2]
          unfold f5_wish_J33
          rw [if_neg (by decide), nn_nat (a := c) (by omega), if_neg (ng (by omega) hcl'), if_neg (ng (by omega) hcl'), hse, hte, e1]
          have hcF : (nn c < 0 ∨ cls.length ≤ c) = False := eq_false (ng (by omega) hcl')
          simp only [bnd3_s, lt_df, nn_succ, hcF, if_false]
          rcases htv with rfl | rfl
          · left
            rw [if_pos (show lg_cmp (0 : Int64) 0 = 0 by decide), if_neg (show ¬ lg_cmp (0 : Int64) 1 = 0 by decide)]
            exact ⟨_, _, n - 1, rfl, rfl, by omega, c + 1, by omega, rfl, rfl, rfl⟩
          · right
            obtain ⟨f2, g2, s1, s2⟩ := hsum f' g' (nn 0) (nn 0)
            rw [if_neg (show ¬ lg_cmp (1 : Int64) 0 = 0 by decide), if_pos (show lg_cmp (1 : Int64) 1 = 0 by decide), s1, s2]
            exact ⟨_, _, rfl, rfl, Or.inr ⟨_, _, _, _, _, _, rfl, rfl, rfl⟩⟩)
  obtain ⟨a, b, e1, e2, h⟩ := key
  rw [e1, e2]
  rcases h with ⟨f, t, g, q, rfl, rfl⟩ | ⟨v, u, f, t, g, q, rfl, rfl, hv⟩
  · exact ⟨0, 0, _, _, _, _, rfl, rfl, by decide⟩
  · exact ⟨v, u, _, _, _, _, rfl, rfl, hv⟩
