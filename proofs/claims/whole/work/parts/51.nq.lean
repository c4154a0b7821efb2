/-! against an invader: plans, digit by digit -/
def hgt (h : Nat) : Int32 := nn h - 1
theorem hgt_add (h : Nat) : hgt h + 1 = nn h := Int32.sub_add_cancel _ _
theorem hgt_succ (h : Nat) : hgt (h + 1) = nn h := nn_pred' h
theorem hgt_0 : hgt 0 = -1 := by decide
theorem hgt_le : ∀ a, a < 12 → ∀ b, b < 12 → ((hgt a ≤ hgt b) ↔ a ≤ b) := by decide +kernel
theorem hgt_lt : ∀ a, a < 12 → ∀ b, b < 12 → ((hgt a < hgt b) ↔ a < b) := by decide +kernel
theorem hgt_n2 : ∀ a, a < 12 → ¬ hgt a = -2 := by decide +kernel
def clN (S : Nat → Int32) (P R h : Nat) : Nat := if h < R ∧ sRoom S P (nn h) = true then h + 1 else h
theorem clN_ge (S : Nat → Int32) (P R h : Nat) : h ≤ clN S P R h := by
  unfold clN; split <;> omega
theorem clN_le (S : Nat → Int32) {P R h : Nat} (hh : h ≤ R) : clN S P R h ≤ R := by
  unfold clN; split <;> omega
/-- the row behind a digit of a plan: none, or a step -/
def stC (S : Nat → Int32) (P : Nat) : Nat → Option (Nat → Int32)
  | 0 => some S
  | s + 1 => if sStep S P (s / 2) (sWy s) = -1 then none else some (upd S (46 + 4 * (s / 2)) (sStep S P (s / 2) (sWy s)))
theorem stC_n {S : Nat → Int32} {P s : Nat} (h : sStep S P (s / 2) (sWy s) = -1) : stC S P (s + 1) = none := by
  show (if sStep S P (s / 2) (sWy s) = -1 then none else _) = none
  rw [if_pos h]
theorem stC_s {S : Nat → Int32} {P s : Nat} (h : ¬ sStep S P (s / 2) (sWy s) = -1) : stC S P (s + 1) = some (upd S (46 + 4 * (s / 2)) (sStep S P (s / 2) (sWy s))) := by
  show (if sStep S P (s / 2) (sWy s) = -1 then none else some (upd S (46 + 4 * (s / 2)) (sStep S P (s / 2) (sWy s)))) = _
  rw [if_neg h]
def plan (P R : Nat) : (Nat → Int32) → Nat → List Nat → Option Nat
  | _, h, [] => some h
  | S, h, c :: cs => match stC S P c with
    | none => none
    | some S' => plan P R S' (clN S' P R h) cs
theorem plan_cons_n {P R : Nat} {S : Nat → Int32} {h c : Nat} {cs : List Nat} (e : stC S P c = none) : plan P R S h (c :: cs) = none := by
  simp only [plan, e]
theorem plan_cons_s {P R : Nat} {S S' : Nat → Int32} {h c : Nat} {cs : List Nat} (e : stC S P c = some S') : plan P R S h (c :: cs) = plan P R S' (clN S' P R h) cs := by
  simp only [plan, e]
theorem plan_ge {P R : Nat} : ∀ (ds : List Nat) (S : Nat → Int32) (h v : Nat), plan P R S h ds = some v → h ≤ v
  | [], S, h, v, e => by
    have : h = v := by simpa only [plan, Option.some.injEq] using e
    omega
  | c :: cs, S, h, v, e => by
    cases hc : stC S P c with
    | none => rw [plan_cons_n hc] at e; cases e
    | some S' =>
      rw [plan_cons_s hc] at e
      have h1 := plan_ge cs _ _ _ e
      have h2 := clN_ge S' P R h
      omega
theorem plan_le {P R : Nat} : ∀ (ds : List Nat) (S : Nat → Int32) (h v : Nat), h ≤ R → plan P R S h ds = some v → v ≤ R
  | [], S, h, v, hh, e => by
    have : h = v := by simpa only [plan, Option.some.injEq] using e
    omega
  | c :: cs, S, h, v, hh, e => by
    cases hc : stC S P c with
    | none => rw [plan_cons_n hc] at e; cases e
    | some S' =>
      rw [plan_cons_s hc] at e
      exact plan_le cs _ _ _ (clN_le S' hh) e
def dOK (P n : Nat) (ds : List Nat) : Prop := ds.length = n ∧ ∀ c, c ∈ ds → c ≤ 2 * P
theorem dOK_cons {P n c : Nat} {ds : List Nat} (hc : c ≤ 2 * P) (h : dOK P n ds) : dOK P (n + 1) (c :: ds) :=
  ⟨by rw [List.length_cons, h.1], fun x hx => by
    rcases List.mem_cons.mp hx with rfl | hx
    · exact hc
    · exact h.2 x hx⟩
theorem dOK_tl {P n c : Nat} {ds : List Nat} (h : dOK P (n + 1) (c :: ds)) : c ≤ 2 * P ∧ dOK P n ds :=
  ⟨h.2 c List.mem_cons_self, by have := h.1; rw [List.length_cons] at this; omega, fun x hx => h.2 x (List.mem_cons_of_mem _ hx)⟩
def Mn (P R : Nat) (S : Nat → Int32) (h n v : Nat) : Prop := (∃ ds, dOK P n ds ∧ plan P R S h ds = some v) ∧ ∀ ds u, dOK P n ds → plan P R S h ds = some u → v ≤ u
/-- of the digits up to k the first by which it comes lowest -/
def Fst (P R : Nat) (S : Nat → Int32) (h n v c k : Nat) : Prop := c ≤ k ∧ (∃ ds, dOK P n ds ∧ plan P R S h (c :: ds) = some v) ∧ ∀ c' ds u, c' ≤ k → dOK P n ds → plan P R S h (c' :: ds) = some u → v ≤ u ∧ (c' < c → v < u)
theorem Fst.mn {P R : Nat} {S : Nat → Int32} {h n v c : Nat} (H : Fst P R S h n v c (2 * P)) : Mn P R S h (n + 1) v := by
  obtain ⟨h1, ⟨ds, h2, h3⟩, h4⟩ := H
  refine ⟨⟨c :: ds, dOK_cons h1 h2, h3⟩, fun ds2 u k1 k2 => ?_⟩
  cases ds2 with
  | nil => have := k1.1; simp at this
  | cons c2 ds2 => exact (h4 c2 ds2 u (dOK_tl k1).1 (dOK_tl k1).2 k2).1
section
variable {S : Nat → Int32} {R P : Nat} {hour broken rungs people : Int32} {rung grip want slips worn room strength weight told : Nat → Int32}
theorem IV0.up_rg {p : Nat} {v : Int32} (h : IV0 R P S) (hpP : p < P) : IV0 R P (upd S (46 + 4 * p) v) := by
  obtain ⟨h1, h2, h3, h4, h5, h6, h7, h8⟩ := h
  refine ⟨h1, h2, (upd_ne (by omega)).trans h3, (upd_ne (by omega)).trans h4, fun r hr => ?_, h6.u_cell (by omega), fun q hq => ?_, fun q hq => ?_⟩
  · rw [upd_ne (by omega)]; exact h5 r hr
  · obtain ⟨w, hw, e⟩ := h7 q hq
    exact ⟨w, hw, (upd_ne (by omega)).trans e⟩
  · obtain ⟨t, a, b, e⟩ := h8 q hq
    exact ⟨t, a, b, (upd_ne (by omega)).trans e⟩
theorem RLd.up_rg {p : Nat} {v : Int32} (hL : RLd R P S rungs people room strength weight told) (hR : R < 10) (hp : p < 4) : RLd R P (upd S (46 + 4 * p) v) rungs people room strength weight told := by
  obtain ⟨h1, h2, h3, h4, h5, h6⟩ := hL
  exact ⟨h1, h2, fun r hr => (h3 r hr).trans (upd_ne (by omega)).symm, fun r hr => (h4 r hr).trans (upd_ne (by omega)).symm, fun q hq => (h5 q hq).trans (upd_ne (by omega)).symm, fun q hq => (h6 q hq).trans (upd_ne (by omega)).symm⟩
theorem bnd3_id {A B C : Type} (x : Option (A × B × C)) : bnd3 x (fun a b c => some (a, b, c)) = x := by
  cases x with
  | none => rfl
  | some z => obtain ⟨a, b, c⟩ := z; rfl
theorem c_letClimb {h : Nat} {fs a2 : Int32} (rc : (Int32) → (Int32) → (Nat → Int32) → (Int32) → (Int32) → (Nat → Int32) → (Int32) → (Int32) → Option (Int32 × Int32 × (Nat → Int32))) (hI : IV0 R P S) (hW : RWd S hour broken rung grip want slips worn) (hL : RLd R P S rungs people room strength weight told) (hh : h ≤ R) : f7_letClimb rc fs broken rung rungs people room (hgt h) a2 = rc fs broken rung rungs people room (hgt (clN S P R h)) (a2 - 1) := by
  have hR9 := hI.1
  unfold f7_letClimb f7_letClimb_J33 f7_letClimb_J34 f7_letClimb_J47 clN
  rw [lt_df, hgt_add, hL.1]
  by_cases h1 : h < R
  · have e : f10_hasRoom rung people room (nn h) = some (if sRoom S P (nn h) then 1 else 0) := c_hasRoom hI hW hL h1
    rw [if_neg (nle (by omega) (by omega) (by omega)), e, bnd1_s]
    by_cases h2 : sRoom S P (nn h) = true
    · rw [if_pos h2, if_neg (show ¬ (1 : Int32) = 0 by decide), if_neg (show ¬ (1 : Int32) = 0 by decide), bnd3_id, if_pos ⟨h1, h2⟩, hgt_succ]
    · rw [if_neg h2, if_pos (show (0 : Int32) = 0 from rfl), if_pos (show (0 : Int32) = 0 from rfl), bnd3_id, if_neg (fun h3 => h2 h3.2)]
  · rw [if_pos (nleT (by omega) (by omega) (by omega)), if_pos (show (0 : Int32) = 0 from rfl), bnd3_id, if_neg (fun h3 => h1 h3.1)]
/-- the class's best defence -/
theorem c_defend : ∀ (n fuel : Nat), n < fuel → n < 5 → ∀ (S tr : Nat → Int32) (h : Nat) (fs : Int32), IV0 R P S → RWd S hour broken tr grip want slips worn → RLd R P S rungs people room strength weight told → h ≤ R →
    ∃ v fs1, f7_defend fuel fs broken tr rungs people room (hgt h) (nn n) = some (hgt v, fs1, tr) ∧ Mn P R S h n v ∧ (∀ m, n = m + 1 → ∃ c, fs1 = hgt c ∧ Fst P R S h m v c (2 * P)) := by
  intro n
  induction n with
  | zero =>
    intro fuel hf h5 S tr h fs hI hW hL hh
    obtain ⟨f, rfl⟩ : ∃ f, fuel = f + 1 := ⟨fuel - 1, by omega⟩
    refine ⟨h, fs, ?_, ⟨⟨[], ⟨rfl, fun c hc => absurd hc List.not_mem_nil⟩, rfl⟩, fun ds u hd hu => plan_ge ds _ _ _ hu⟩, fun m hm => by omega⟩
    show f7_defend_body (f7_defend f) fs broken tr rungs people room (hgt h) (nn 0) = _
    unfold f7_defend_body
    rw [if_neg (show ¬ (0 : Int32) < nn 0 by decide)]
  | succ n ih =>
    intro fuel hf h5 S tr h fs hI hW hL hh
    have hR9 := hI.1
    have hP4 := hI.2.1
    obtain ⟨f, rfl⟩ : ∃ f, fuel = f + 1 := ⟨fuel - 1, by omega⟩
    have hpd : nn (n + 1) - 1 = nn n := nn_pred' n
    have hc0 := c_letClimb (fs := fs) (a2 := nn (n + 1)) (f7_defend f) hI hW hL hh
    obtain ⟨v0, fs0, d1, d2, d3⟩ := ih f (by omega) (by omega) S tr (clN S P R h) fs hI hW hL (clN_le S hh)
    have h2P : (2 : Int32) * people = nn (2 * P) := by rw [hL.2.1]; exact nn_mul 2 P
    have key := iter_wfF (B := fun (z : Int32 × (Nat → Int32) × Int32 × Int32 × Int32) => f7_defend_B19 people (hgt h) broken rungs room (f7_defend f) (nn (n + 1)) z.1 z.2.1 z.2.2.1 z.2.2.2.1 z.2.2.2.2) (s := (fs0, tr, hgt v0, (-1 : Int32), (0 : Int32))) (n := 2 * P)
      (I := fun m z => ∃ k v c, m + k = 2 * P ∧ z.2.1 = tr ∧ z.2.2.1 = hgt v ∧ z.2.2.2.1 = hgt c ∧ z.2.2.2.2 = nn k ∧ h ≤ v ∧ v ≤ R ∧ Fst P R S h n v c k)
      (Po := fun z => ∃ v c, z.2.1 = tr ∧ z.2.2.1 = hgt v ∧ z.2.2.2 = hgt c ∧ Fst P R S h n v c (2 * P))
      (by
        obtain ⟨⟨ds, q1, q2⟩, q3⟩ := d2
        have q4 := plan_ge ds _ _ _ q2
        have q5 := plan_le ds _ _ _ (clN_le S hh) q2
        have q6 := clN_ge S P R h
        refine ⟨0, v0, 0, rfl, rfl, rfl, hgt_0.symm, rfl, by omega, q5, Nat.le_refl 0, ⟨ds, q1, ?_⟩, fun c' ds' u hc' hd' hu => ?_⟩
        · rw [plan_cons_s (S' := S) rfl]; exact q2
        · obtain rfl : c' = 0 := by omega
          rw [plan_cons_s (S' := S) rfl] at hu
          exact ⟨q3 ds' u hd' hu, fun h9 => absurd h9 (Nat.lt_irrefl 0)⟩)
      (by omega)
      (by
        rintro m ⟨fs2, tr2, lo, be, i⟩ ⟨k, v, c, hk, rfl, rfl, rfl, rfl, hv1, hv2, hF⟩
        dsimp only
        unfold f7_defend_B19
        rw [h2P]
        by_cases hkP : k < 2 * P
        · rw [if_neg (nle (by omega) (by omega) (by omega))]
          by_cases hlo : v ≤ h
          · right
            rw [if_pos ((hgt_le v (by omega) h (by omega)).mpr hlo)]
            refine ⟨_, rfl, v, c, rfl, rfl, rfl, ?_⟩
            obtain ⟨g1, g2, g3⟩ := hF
            refine ⟨by omega, g2, fun c' ds' u hc' hd' hu => ?_⟩
            by_cases hck : c' ≤ k
            · exact g3 c' ds' u hck hd' hu
            · have := plan_ge _ _ _ _ hu
              exact ⟨by omega, fun h9 => by omega⟩
          · left
            have hk8 : k < 8 := by omega
            have hk2 : k / 2 < 4 := by omega
            have hgo := c_goalOf hI hW hL hk8
            rw [if_neg (fun h9 => hlo ((hgt_le v (by omega) h (by omega)).mp h9)), lt_df, (hv8 k hk8).1, nn_nat (by omega), if_neg (ng (by omega) (by omega)), lt_df, hgo, bnd1_s]
            by_cases hs : sStep S P (k / 2) (sWy k) = -1
            · rw [if_pos hs, lt_df, nn_succ]
              refine ⟨_, m - 1, rfl, by omega, k + 1, v, c, by omega, rfl, rfl, rfl, rfl, hv1, hv2, by have := hF.1; omega, hF.2.1, fun c' ds' u hc' hd' hu => ?_⟩
              by_cases hck : c' ≤ k
              · exact hF.2.2 c' ds' u hck hd' hu
              · obtain rfl : c' = k + 1 := by omega
                rw [plan_cons_n (stC_n hs)] at hu
                cases hu
            · have hst : stC S P (k + 1) = some (upd S (46 + 4 * (k / 2)) (sStep S P (k / 2) (sWy k))) := stC_s hs
              generalize hS' : upd S (46 + 4 * (k / 2)) (sStep S P (k / 2) (sWy k)) = S' at hst
              have hI' : IV0 R P S' := hS' ▸ hI.up_rg (by omega)
              have hW' : RWd S' hour broken (upd tr2 (k / 2) (sStep S P (k / 2) (sWy k))) grip want slips worn := hS' ▸ hW.u_rung _
              have hL' : RLd R P S' rungs people room strength weight told := hS' ▸ hL.up_rg hR9 hk2
              obtain ⟨u0, fs3, j1, j2, j3⟩ := ih f (by omega) (by omega) S' _ (clN S' P R h) fs2 hI' hW' hL' (clN_le S' hh)
              rw [if_neg hs, if_neg (ng (by omega) (by omega)), lt_df, c_letClimb (f7_defend f) hI' hW' hL' hh, hpd, j1, bnd3_s, if_neg (ng (by omega) (by omega)), lt_df, upd_back]
              obtain ⟨⟨ds0, p1, p2⟩, p3⟩ := j2
              have p4 := plan_ge ds0 _ _ _ p2
              have p5 := plan_le ds0 _ _ _ (clN_le S' hh) p2
              have p6 := clN_ge S' P R h
              by_cases hvu : v ≤ u0
              · rw [if_pos ((hgt_le v (by omega) u0 (by omega)).mpr hvu), lt_df, nn_succ]
                refine ⟨_, m - 1, rfl, by omega, k + 1, v, c, by omega, rfl, rfl, rfl, rfl, hv1, hv2, by have := hF.1; omega, hF.2.1, fun c' ds' u hc' hd' hu => ?_⟩
                by_cases hck : c' ≤ k
                · exact hF.2.2 c' ds' u hck hd' hu
                · obtain rfl : c' = k + 1 := by omega
                  rw [plan_cons_s hst] at hu
                  have := p3 ds' u hd' hu
                  have := hF.1
                  exact ⟨by omega, fun h9 => by omega⟩
              · rw [if_neg (fun h9 => hvu ((hgt_le v (by omega) u0 (by omega)).mp h9)), lt_df, nn_succ]
                refine ⟨_, m - 1, rfl, by omega, k + 1, u0, k + 1, by omega, rfl, rfl, (hgt_succ k).symm, rfl, by omega, p5, Nat.le_refl _, ⟨ds0, p1, ?_⟩, fun c' ds' u hc' hd' hu => ?_⟩
                · rw [plan_cons_s hst]; exact p2
                · by_cases hck : c' ≤ k
                  · have := (hF.2.2 c' ds' u hck hd' hu).1
                    exact ⟨by omega, fun _ => by omega⟩
                  · obtain rfl : c' = k + 1 := by omega
                    rw [plan_cons_s hst] at hu
                    exact ⟨p3 ds' u hd' hu, fun h9 => absurd h9 (Nat.lt_irrefl _)⟩
        · right
          obtain rfl : k = 2 * P := by omega
          rw [if_pos (nleT (by omega) (by omega) (Nat.le_refl _))]
          exact ⟨_, rfl, v, c, rfl, rfl, rfl, hF⟩)
    obtain ⟨⟨fs9, tr9, lo9, be9⟩, e9, v, c, rfl, rfl, rfl, hF⟩ := key
    refine ⟨v, hgt c, ?_, hF.mn, fun m hm => ⟨c, rfl, (show n = m by omega) ▸ hF⟩⟩
    show f7_defend_body (f7_defend f) fs broken tr9 rungs people room (hgt h) (nn (n + 1)) = _
    unfold f7_defend_body
    rw [if_pos (show (0 : Int32) < nn (n + 1) from nltT (a := 0) (by omega) (by omega) (by omega)), hc0, hpd, d1, bnd3_s, e9, bnd4_s]
end
