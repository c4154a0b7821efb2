theorem bnd1_s {T0 R : Type} (a0 : T0) (f : T0 → Option R) : bnd1 (some (a0)) f = f a0 := congrArg (fun x => x) (by unfold bnd1; exact Eq.refl _)
theorem bnd2_s {T0 T1 R : Type} (a0 : T0) (a1 : T1) (f : T0 → T1 → Option R) : bnd2 (some (a0, a1)) f = f a0 a1 := congrArg (fun x => x) (by unfold bnd2; exact Eq.refl _)
theorem bnd3_s {T0 T1 T2 R : Type} (a0 : T0) (a1 : T1) (a2 : T2) (f : T0 → T1 → T2 → Option R) : bnd3 (some (a0, a1, a2)) f = f a0 a1 a2 := congrArg (fun x => x) (by unfold bnd3; exact Eq.refl _)
theorem bnd4_s {T0 T1 T2 T3 R : Type} (a0 : T0) (a1 : T1) (a2 : T2) (a3 : T3) (f : T0 → T1 → T2 → T3 → Option R) : bnd4 (some (a0, a1, a2, a3)) f = f a0 a1 a2 a3 := congrArg (fun x => x) (by unfold bnd4; exact Eq.refl _)
theorem bnd5_s {T0 T1 T2 T3 T4 R : Type} (a0 : T0) (a1 : T1) (a2 : T2) (a3 : T3) (a4 : T4) (f : T0 → T1 → T2 → T3 → T4 → Option R) : bnd5 (some (a0, a1, a2, a3, a4)) f = f a0 a1 a2 a3 a4 := congrArg (fun x => x) (by unfold bnd5; exact Eq.refl _)
theorem bnd6_s {T0 T1 T2 T3 T4 T5 R : Type} (a0 : T0) (a1 : T1) (a2 : T2) (a3 : T3) (a4 : T4) (a5 : T5) (f : T0 → T1 → T2 → T3 → T4 → T5 → Option R) : bnd6 (some (a0, a1, a2, a3, a4, a5)) f = f a0 a1 a2 a3 a4 a5 := congrArg (fun x => x) (by unfold bnd6; exact Eq.refl _)
theorem bnd7_s {T0 T1 T2 T3 T4 T5 T6 R : Type} (a0 : T0) (a1 : T1) (a2 : T2) (a3 : T3) (a4 : T4) (a5 : T5) (a6 : T6) (f : T0 → T1 → T2 → T3 → T4 → T5 → T6 → Option R) : bnd7 (some (a0, a1, a2, a3, a4, a5, a6)) f = f a0 a1 a2 a3 a4 a5 a6 := congrArg (fun x => x) (by unfold bnd7; exact Eq.refl _)
theorem bnd8_s {T0 T1 T2 T3 T4 T5 T6 T7 R : Type} (a0 : T0) (a1 : T1) (a2 : T2) (a3 : T3) (a4 : T4) (a5 : T5) (a6 : T6) (a7 : T7) (f : T0 → T1 → T2 → T3 → T4 → T5 → T6 → T7 → Option R) : bnd8 (some (a0, a1, a2, a3, a4, a5, a6, a7)) f = f a0 a1 a2 a3 a4 a5 a6 a7 := congrArg (fun x => x) (by unfold bnd8; exact Eq.refl _)
theorem bnd9_s {T0 T1 T2 T3 T4 T5 T6 T7 T8 R : Type} (a0 : T0) (a1 : T1) (a2 : T2) (a3 : T3) (a4 : T4) (a5 : T5) (a6 : T6) (a7 : T7) (a8 : T8) (f : T0 → T1 → T2 → T3 → T4 → T5 → T6 → T7 → T8 → Option R) : bnd9 (some (a0, a1, a2, a3, a4, a5, a6, a7, a8)) f = f a0 a1 a2 a3 a4 a5 a6 a7 a8 := congrArg (fun x => x) (by unfold bnd9; exact Eq.refl _)
theorem bnd10_s {T0 T1 T2 T3 T4 T5 T6 T7 T8 T9 R : Type} (a0 : T0) (a1 : T1) (a2 : T2) (a3 : T3) (a4 : T4) (a5 : T5) (a6 : T6) (a7 : T7) (a8 : T8) (a9 : T9) (f : T0 → T1 → T2 → T3 → T4 → T5 → T6 → T7 → T8 → T9 → Option R) : bnd10 (some (a0, a1, a2, a3, a4, a5, a6, a7, a8, a9)) f = f a0 a1 a2 a3 a4 a5 a6 a7 a8 a9 := congrArg (fun x => x) (by unfold bnd10; exact Eq.refl _)
theorem bnd11_s {T0 T1 T2 T3 T4 T5 T6 T7 T8 T9 T10 R : Type} (a0 : T0) (a1 : T1) (a2 : T2) (a3 : T3) (a4 : T4) (a5 : T5) (a6 : T6) (a7 : T7) (a8 : T8) (a9 : T9) (a10 : T10) (f : T0 → T1 → T2 → T3 → T4 → T5 → T6 → T7 → T8 → T9 → T10 → Option R) : bnd11 (some (a0, a1, a2, a3, a4, a5, a6, a7, a8, a9, a10)) f = f a0 a1 a2 a3 a4 a5 a6 a7 a8 a9 a10 := congrArg (fun x => x) (by unfold bnd11; exact Eq.refl _)
theorem bnd12_s {T0 T1 T2 T3 T4 T5 T6 T7 T8 T9 T10 T11 R : Type} (a0 : T0) (a1 : T1) (a2 : T2) (a3 : T3) (a4 : T4) (a5 : T5) (a6 : T6) (a7 : T7) (a8 : T8) (a9 : T9) (a10 : T10) (a11 : T11) (f : T0 → T1 → T2 → T3 → T4 → T5 → T6 → T7 → T8 → T9 → T10 → T11 → Option R) : bnd12 (some (a0, a1, a2, a3, a4, a5, a6, a7, a8, a9, a10, a11)) f = f a0 a1 a2 a3 a4 a5 a6 a7 a8 a9 a10 a11 := congrArg (fun x => x) (by unfold bnd12; exact Eq.refl _)
theorem bnd13_s {T0 T1 T2 T3 T4 T5 T6 T7 T8 T9 T10 T11 T12 R : Type} (a0 : T0) (a1 : T1) (a2 : T2) (a3 : T3) (a4 : T4) (a5 : T5) (a6 : T6) (a7 : T7) (a8 : T8) (a9 : T9) (a10 : T10) (a11 : T11) (a12 : T12) (f : T0 → T1 → T2 → T3 → T4 → T5 → T6 → T7 → T8 → T9 → T10 → T11 → T12 → Option R) : bnd13 (some (a0, a1, a2, a3, a4, a5, a6, a7, a8, a9, a10, a11, a12)) f = f a0 a1 a2 a3 a4 a5 a6 a7 a8 a9 a10 a11 a12 := congrArg (fun x => x) (by unfold bnd13; exact Eq.refl _)
theorem bnd14_s {T0 T1 T2 T3 T4 T5 T6 T7 T8 T9 T10 T11 T12 T13 R : Type} (a0 : T0) (a1 : T1) (a2 : T2) (a3 : T3) (a4 : T4) (a5 : T5) (a6 : T6) (a7 : T7) (a8 : T8) (a9 : T9) (a10 : T10) (a11 : T11) (a12 : T12) (a13 : T13) (f : T0 → T1 → T2 → T3 → T4 → T5 → T6 → T7 → T8 → T9 → T10 → T11 → T12 → T13 → Option R) : bnd14 (some (a0, a1, a2, a3, a4, a5, a6, a7, a8, a9, a10, a11, a12, a13)) f = f a0 a1 a2 a3 a4 a5 a6 a7 a8 a9 a10 a11 a12 a13 := congrArg (fun x => x) (by unfold bnd14; exact Eq.refl _)
theorem bnd15_s {T0 T1 T2 T3 T4 T5 T6 T7 T8 T9 T10 T11 T12 T13 T14 R : Type} (a0 : T0) (a1 : T1) (a2 : T2) (a3 : T3) (a4 : T4) (a5 : T5) (a6 : T6) (a7 : T7) (a8 : T8) (a9 : T9) (a10 : T10) (a11 : T11) (a12 : T12) (a13 : T13) (a14 : T14) (f : T0 → T1 → T2 → T3 → T4 → T5 → T6 → T7 → T8 → T9 → T10 → T11 → T12 → T13 → T14 → Option R) : bnd15 (some (a0, a1, a2, a3, a4, a5, a6, a7, a8, a9, a10, a11, a12, a13, a14)) f = f a0 a1 a2 a3 a4 a5 a6 a7 a8 a9 a10 a11 a12 a13 a14 := congrArg (fun x => x) (by unfold bnd15; exact Eq.refl _)
theorem bnd0_s {R : Type} (f : Option R) : bnd0 (some ()) f = f := congrArg (fun x => x) (by unfold bnd0; exact Eq.refl _)
section
variable {S : Nat → Int32} {R P : Nat} {hour broken rungs people : Int32} {rung grip want slips worn room strength weight told deed moved will wil2 : Nat → Int32}
theorem c_hasRoom0 {r : Nat} (hI : IV0 R P S) (hW : RWd S hour broken rung grip want slips worn) (hL : RLd R P S rungs people room strength weight told) (hr : r < R) (h : S (10 + 4 * r) ≤ nn (crF (gR S) (nn r) P)) : f10_hasRoom rung people room (nn r) = some 0 := by
  have hR9 := hI.1
  rw [c_hasRoom hI hW hL hr, sRoom_nn (by omega), decide_eq_false (Int32.not_lt.mpr h)]; rfl
theorem c_hasRoom1 {r : Nat} (hI : IV0 R P S) (hW : RWd S hour broken rung grip want slips worn) (hL : RLd R P S rungs people room strength weight told) (hr : r < R) (h : ¬ S (10 + 4 * r) ≤ nn (crF (gR S) (nn r) P)) : f10_hasRoom rung people room (nn r) = some 1 := by
  have hR9 := hI.1
  rw [c_hasRoom hI hW hL hr, sRoom_nn (by omega), decide_eq_true (Int32.not_le.mp h)]; rfl
def WIp (will wil2 : Nat → Int32) (p : Nat) : Prop := will p = wil2 p ∧ (wil2 p = 0 ∨ wil2 p = 1 ∨ wil2 p = -1)
/-- who may be passed -/
theorem r_partner {p : Nat} {x : Int32} (hI : IV0 R P S) (hW : RWd S hour broken rung grip want slips worn) (hd : ∀ q, q < P → DEp deed moved q) (hw : ∀ q, q < P → WIp will wil2 q) (hp : p < 4) : ∃ v, f0_partner will deed broken rung (nn R) (nn P) (nn p) x = some v ∧ f12_passer S wil2 moved x (S (46 + 4 * p)) = some v ∧ (v = -1 ∨ ∃ o, o < P ∧ v = nn o ∧ S (46 + 4 * o) = x) := by
  obtain ⟨hR9, hP4, hR, hP, -⟩ := hI
  unfold f0_partner f12_passer
  have key := iter_twoF (B := fun (z : Int32) => f0_partner_B3 (nn P) rung x deed will broken (nn R) (nn p) z) (C := fun (z : Int32) => f12_passer_B2 S x moved wil2 (S (46 + 4 * p)) z) (s := (0 : Int32)) (t := (0 : Int32)) (n := P)
    (I := fun n a b => ∃ k, n + k = P ∧ a = nn k ∧ b = nn k)
    (Po := fun a b => (a = .inr () ∧ b = .inr ()) ∨ ∃ o, o < P ∧ a = .inl (nn o) ∧ b = .inl (nn o) ∧ S (46 + 4 * o) = x)
    ⟨0, rfl, rfl, rfl⟩ (by omega)
    (by
      rintro n _ _ ⟨k, hk, rfl, rfl⟩
      unfold f0_partner_B3 f12_passer_B2
      rw [hP]
      by_cases hkP : P ≤ k
      · right
        rw [if_pos (nleT (by omega) (by omega) hkP), if_pos (nleT (by omega) (by omega) hkP)]
        exact ⟨_, _, rfl, rfl, Or.inl ⟨rfl, rfl⟩⟩
      · have hc0 : ¬ (nn k < 0 ∨ 4 ≤ k) := ng (by omega) (by omega)
        have hc1 : ¬ (nn p < 0 ∨ 4 ≤ p) := ng (by omega) (by omega)
        have go : f0_partner_J50 broken (nn R) x will (nn p) rung (nn k) = some (.inl (nn (k + 1))) := by
          unfold f0_partner_J50 f0_partner_J51
          rw [if_pos rfl, lt_df, nn_succ]
        have hcF : (nn k < 0 ∨ 4 ≤ k) = False := eq_false hc0
        have hcP : (nn p < 0 ∨ 4 ≤ p) = False := eq_false hc1
        rw [if_neg (nle (by omega) (by omega) hkP), if_neg (nle (by omega) (by omega) hkP), nn_nat (by omega), m_p0 (by omega), hW.2.2.1 k (by omega), (hd k (by omega)).1, (hw k (by omega)).1, go]
        simp only [hcF, if_false, bnd1_s, lt_df, nn_succ]
        by_cases e : S (46 + 4 * k) = x
        · rw [if_pos e, if_pos e]
          by_cases e2 : moved k = 0
          · rw [if_pos e2, if_pos e2]
            by_cases e3 : wil2 k = 0
            · rw [if_pos e3, if_pos e3]
              exact Or.inl ⟨_, _, n - 1, rfl, rfl, by omega, k + 1, by omega, rfl, rfl⟩
            · rw [if_neg e3, if_neg e3]
              unfold f0_partner_J51
              rw [if_neg (by decide), nn_nat (a := k) (by omega), nn_nat (a := p) (by omega), (hw k (by omega)).1, c_beside hR hR9 hW.2.1, m_beside hR hR9, hW.2.2.1 p hp]
              simp only [hcF, hcP, if_false, bnd1_s, lt_df, nn_succ]
              by_cases e4 : sBes S x (wil2 k) = S (46 + 4 * p)
              · rw [if_pos e4]
                exact Or.inr ⟨_, _, rfl, rfl, Or.inr ⟨k, by omega, rfl, rfl, e⟩⟩
              · rw [if_neg e4]
                exact Or.inl ⟨_, _, n - 1, rfl, rfl, by omega, k + 1, by omega, rfl, rfl⟩
          · rw [if_neg e2, if_neg e2]
            exact Or.inl ⟨_, _, n - 1, rfl, rfl, by omega, k + 1, by omega, rfl, rfl⟩
        · rw [if_neg e, if_neg e]
          exact Or.inl ⟨_, _, n - 1, rfl, rfl, by omega, k + 1, by omega, rfl, rfl⟩)
  obtain ⟨a, b, e1, e2, h⟩ := key
  rw [e1, e2]
  rcases h with ⟨rfl, rfl⟩ | ⟨o, ho, rfl, rfl, hx⟩
  · exact ⟨-1, rfl, rfl, Or.inl rfl⟩
  · exact ⟨nn o, rfl, rfl, Or.inr ⟨o, ho, rfl, hx⟩⟩
/-- one who wills to goes: a step, a pass, or nothing -/
theorem r_go {p : Nat} (hI : IV R P S) (hW : RWd S hour broken rung grip want slips worn) (hL : RLd R P S rungs people room strength weight told) (hd : ∀ q, q < P → DEp deed moved q) (hw : ∀ q, q < P → WIp will wil2 q) (hp : p < P) : ∃ deed' moved' rung' S', (if will p = 0 then some (deed, rung) else if deed p = 0 then f0_go will deed broken rung rungs people room (nn p) else some (deed, rung)) = some (deed', rung') ∧ f12_goesBy S wil2 moved (nn p) = some (S', moved') ∧ RWd S' hour broken rung' grip want slips worn ∧ IV R P S' ∧ St S S' ∧ (∀ q, q < P → DEp deed' moved' q) := by
  have hI0 := hI.1
  have hI0' := hI0
  obtain ⟨hR9, hP4, hR, hP, -⟩ := hI0'
  have hp4 : p < 4 := by omega
  have hc0 : ¬ (nn p < 0 ∨ 4 ≤ p) := ng (by omega) (by omega)
  have stay : ∃ deed' moved' rung' S', some (deed, rung) = some (deed', rung') ∧ some (S, moved) = some (S', moved') ∧ RWd S' hour broken rung' grip want slips worn ∧ IV R P S' ∧ St S S' ∧ (∀ q, q < P → DEp deed' moved' q) := ⟨_, _, _, _, rfl, rfl, hW, hI, St.rf, hd⟩
  unfold f12_goesBy
  have hcF : (nn p < 0 ∨ 4 ≤ p) = False := eq_false hc0
  rw [m_p0 hp4, nn_nat (by omega), (hw p hp).1, (hd p hp).1]
  simp only [hcF, if_false, bnd1_s]
  rw [m_beside hR hR9]
  simp only [bnd1_s]
  rcases (hI.2.1 p hp).cases with hx | ⟨k, hk, hx⟩
  · rw [hx, if_pos (show (-1 : Int32) < 0 by decide)]
    by_cases h1 : wil2 p = 0
    · rw [if_pos h1]; exact stay
    · rw [if_neg h1]
      by_cases h2 : moved p = 0
      · rw [if_pos h2]
        unfold f0_go
        rw [nn_nat (by omega), if_neg hc0, if_neg hc0, hL.1, c_beside hR hR9 hW.2.1, hW.2.2.1 p hp4, hx]
        simp only [bnd1_s]
        have : sBes S (-1) (will p) = -1 := by unfold sBes; rw [if_pos (by decide)]
        rw [this, if_pos rfl]
        exact stay
      · rw [if_neg h2]; exact stay
  · rw [if_neg (show ¬ S (46 + 4 * p) < 0 by rw [hx]; exact nlt0 (by omega))]
    by_cases h1 : wil2 p = 0
    · rw [if_pos h1, if_pos h1]; exact stay
    · rw [if_neg h1, if_neg h1]
      by_cases h2 : moved p = 0
      · rw [if_pos h2, if_pos h2]
        unfold f0_go
        rw [nn_nat (by omega), if_neg hc0, if_neg hc0, hL.1, c_beside hR hR9 hW.2.1, hW.2.2.1 p hp4, (hw p hp).1]
        simp only [bnd1_s]
        rcases sBes_cases hR hR9 (S (46 + 4 * p)) (wil2 p) with e | ⟨r, hr, e, e0⟩
        · rw [e, if_pos rfl, if_neg (by decide)]; exact stay
        · have hiF : ((46 : Int32) + (4 : Int32) * nn p < 0 ∨ 110 ≤ 46 + 4 * p) = False := eq_false (ix_p0 hp4).2
          rw [e, if_neg (nn_ne_m1 (by omega)), if_pos (n0le (by omega)), m_standing hP hP4, m_r0 (by omega), (ix_p0 hp4).1]
          by_cases hroom : S (10 + 4 * r) ≤ nn (crF (gR S) (nn r) P)
          · rw [c_hasRoom0 hI0 hW hL hr hroom]
            simp only [bnd1_s, lt_df, hcF, hiF, if_false]
            rw [if_pos trivial, if_pos hroom, hL.2.1]
            obtain ⟨v, f1, f2, hv⟩ := r_partner (x := nn r) hI0 hW hd hw hp4
            rw [f1, f2]
            simp only [bnd1_s]
            rcases hv with rfl | ⟨o, ho, rfl, hxo⟩
            · rw [if_pos rfl, if_neg (by decide)]; exact stay
            · have ho4 : o < 4 := by omega
              have hc1 : ¬ (nn o < 0 ∨ 4 ≤ o) := ng (by omega) (by omega)
              rw [if_neg (nn_ne_m1 (by omega)), if_pos (n0le (by omega))]
              unfold f10_swap
              have hcO : (nn o < 0 ∨ 4 ≤ o) = False := eq_false hc1
              have hiO : ((46 : Int32) + (4 : Int32) * nn o < 0 ∨ 110 ≤ 46 + 4 * o) = False := eq_false (ix_p0 ho4).2
              rw [nn_nat (a := p) (by omega), nn_nat (a := o) (by omega), (ix_p0 ho4).1]
              simp only [lt_df, hcF, hcO, hiO, if_false, bnd1_s]
              rw [hW.2.2.1 p hp4, hW.2.2.1 o ho4, hxo]
              have hS1 := (hW.u_rung (p := p) (nn r)).u_rung (p := o) (S (46 + 4 * p))
              refine ⟨_, _, _, _, rfl, rfl, hS1, ⟨(hI0.u_cell (by omega)).u_cell (by omega), fun q hq => ?_, fun q hq => (hI.2.2 q hq).of (by rw [upd_ne (by omega), upd_ne (by omega)]) (by rw [upd_ne (by omega), upd_ne (by omega)])⟩, (St.u_cell (by omega)).tr (St.u_cell (by omega)), fun q hq => ?_⟩
              · by_cases hqo : q = o
                · subst hqo
                  rcases hI.2.1 p hp with h | ⟨r', hr', g1, g2⟩
                  · exact Or.inl (by rw [upd_at]; exact h)
                  · exact Or.inr ⟨r', hr', by rw [upd_at]; exact g1, by rw [upd_ne (by omega), upd_ne (by omega)]; exact g2⟩
                · by_cases hqp : q = p
                  · subst hqp
                    exact Or.inr ⟨r, hr, by rw [upd_ne (by omega), upd_at], by rw [upd_ne (by omega), upd_ne (by omega)]; exact e0⟩
                  · exact (hI.2.1 q hq).of hR9 (by rw [upd_ne (by omega), upd_ne (by omega)]) (fun r hr => by rw [upd_ne (by omega), upd_ne (by omega)])
              · unfold DEp
                by_cases hqo : q = o
                · subst hqo; rw [upd_at, upd_at]; exact ⟨rfl, Or.inr (Or.inr rfl)⟩
                · rw [upd_ne hqo, upd_ne hqo]
                  by_cases hqp : q = p
                  · subst hqp; rw [upd_at, upd_at]; exact ⟨rfl, Or.inr (Or.inr rfl)⟩
                  · rw [upd_ne hqp, upd_ne hqp]; exact hd q hq
          · rw [c_hasRoom1 hI0 hW hL hr hroom]
            simp only [bnd1_s, lt_df, hcF, hiF, if_false]
            rw [if_neg (show ¬ (1 : Int32) = 0 by decide), if_neg hroom]
            refine ⟨_, _, _, _, rfl, rfl, hW.u_rung (p := p) (nn r), ⟨hI0.u_cell (by omega), fun q hq => ?_, fun q hq => (hI.2.2 q hq).of (upd_ne (by omega)) (upd_ne (by omega))⟩, St.u_cell (by omega), fun q hq => ?_⟩
            · by_cases hqp : q = p
              · subst hqp
                exact Or.inr ⟨r, hr, upd_at, (upd_ne (by omega)).trans (e0)⟩
              · exact (hI.2.1 q hq).of hR9 (upd_ne (by omega)) (fun r hr => upd_ne (by omega))
            · unfold DEp
              by_cases hqp : q = p
              · subst hqp; rw [upd_at, upd_at]; exact ⟨rfl, Or.inr (Or.inl rfl)⟩
              · rw [upd_ne hqp, upd_ne hqp]; exact hd q hq
      · rw [if_neg h2, if_neg h2]; exact stay
end
