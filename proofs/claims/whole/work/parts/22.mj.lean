theorem upd_upd {f : Nat → Int32} {i : Nat} {x y : Int32} : upd (upd f i x) i y = upd f i y := by
  funext j
  unfold upd
  split <;> rfl
theorem gr_1' : ∀ g, g < 31 → ∀ t, t < 31 → (t < g ∨ nn g + (-1 : Int32) ≤ nn t) ∧ (nn g + (-1 : Int32) ≤ 0 ∨ (1 ≤ g - 1 ∧ nn g + (-1 : Int32) = nn (g - 1))) := by decide +kernel
theorem gr_1 (g : Nat) (hg : g < 31) (t : Nat) (ht : t < 31) (h : g ≤ t) : (nn g + (-1 : Int32) ≤ nn t) ∧ (¬ nn g + (-1 : Int32) ≤ 0 → 1 ≤ g - 1 ∧ nn g + (-1 : Int32) = nn (g - 1)) :=
  ⟨(gr_1' g hg t ht).1.resolve_left (by omega), fun h9 => (gr_1' g hg t ht).2.resolve_left h9⟩
theorem gr_3' : ∀ g, g < 31 → ∀ t, t < 31 → (t < g ∨ nn g + (-3 : Int32) ≤ nn t) ∧ (nn g + (-3 : Int32) ≤ 0 ∨ (1 ≤ g - 3 ∧ nn g + (-3 : Int32) = nn (g - 3))) := by decide +kernel
theorem gr_3 (g : Nat) (hg : g < 31) (t : Nat) (ht : t < 31) (h : g ≤ t) : (nn g + (-3 : Int32) ≤ nn t) ∧ (¬ nn g + (-3 : Int32) ≤ 0 → 1 ≤ g - 3 ∧ nn g + (-3 : Int32) = nn (g - 3)) :=
  ⟨(gr_3' g hg t ht).1.resolve_left (by omega), fun h9 => (gr_3' g hg t ht).2.resolve_left h9⟩
theorem gr_h : ∀ t, t < 31 → (if (1 : Int32) < nn t / 2 then nn t / 2 else 1) = nn (max 1 (t / 2)) ∧ (if (1 : Int32) ≤ nn t / 2 then nn t / 2 else 1) = nn (max 1 (t / 2)) := by decide +kernel
theorem lt_df {α β : Type} (a : α) (f : α → β) : lt a f = f a := congrArg (fun x => x) (by unfold lt; exact Eq.refl _)
section
variable {S : Nat → Int32} {R P : Nat} {hour broken rungs people : Int32} {rung grip want slips worn room strength weight told deed moved : Nat → Int32}
def DEp (deed moved : Nat → Int32) (p : Nat) : Prop := deed p = moved p ∧ (moved p = 0 ∨ moved p = 1 ∨ moved p = 2)
theorem m_j45 {p g t : Nat} (hp4 : p < 4) (hgS : S (47 + 4 * p) = nn g) (htS : S (63 + 2 * p) = nn t) (d : Int32) : f12_tires_J45 (nn p) S ((46 : Int32) + (4 : Int32) * nn p + (1 : Int32)) ((46 : Int32) + (4 : Int32) * nn p + (1 : Int32)) (S (47 + 4 * p)) d = if nn g + d ≤ nn t then f12_tires_J72 (nn p) (upd S (47 + 4 * p) (nn g + d)) ((46 : Int32) + (4 : Int32) * nn p + (1 : Int32)) else f12_tires_J72 (nn p) (upd S (47 + 4 * p) (nn t)) ((46 : Int32) + (4 : Int32) * nn p + (1 : Int32)) := by
  have hidx := ix_p1 hp4
  unfold f12_tires_J45
  rw [hidx.1, if_neg hidx.2]
  simp only [lt]
  rw [if_neg hidx.2, m_gripTold hp4, upd_at, upd_ne (by omega), htS, hgS]
  simp only [bnd1]
  rw [if_neg hidx.2, upd_upd]
theorem m_tires {p : Nat} (hp4 : p < 4) (d : Int32) (h : moved p = 0 ∧ d = 1 ∨ moved p = 1 ∧ d = -1 ∨ moved p = 2 ∧ d = -3) : f12_tires S moved (nn p) = f12_tires_J45 (nn p) S ((46 : Int32) + (4 : Int32) * nn p + (1 : Int32)) ((46 : Int32) + (4 : Int32) * nn p + (1 : Int32)) (S (47 + 4 * p)) d := by
  have hidx := ix_p1 hp4
  have hc0 : ¬ (nn p < 0 ∨ 4 ≤ p) := ng (by omega) (by omega)
  unfold f12_tires
  simp only [lt]
  rw [hidx.1, if_neg hidx.2, nn_nat (by omega), if_neg hc0, if_neg hc0]
  rcases h with ⟨h, rfl⟩ | ⟨h, rfl⟩ | ⟨h, rfl⟩
  · rw [h, if_pos rfl]
  · rw [h, if_neg (by decide), if_pos rfl]
  · rw [h, if_neg (by decide), if_neg (by decide)]
theorem c_tire {p g t : Nat} (hp4 : p < 4) (hd : deed p = moved p) (hg : grip p = nn g) (ht : told p = nn t) : f0_tire deed broken rung grip slips told (nn p) = if Int32.toInt (moved p) = 1 then f0_tire_J74 broken (nn p) rung grip slips (nn t) (nn g + (-1 : Int32)) else if Int32.toInt (moved p) = 2 then f0_tire_J74 broken (nn p) rung grip slips (nn t) (nn g + (-3 : Int32)) else f0_tire_J74 broken (nn p) rung grip slips (nn t) (if (nn g + (1 : Int32)) < nn t then (nn g + (1 : Int32)) else nn t) := by
  have hc0 : ¬ (nn p < 0 ∨ 4 ≤ p) := ng (by omega) (by omega)
  unfold f0_tire
  rw [nn_nat (by omega), if_neg hc0, lt_df, if_neg hc0, lt_df, if_neg hc0, ht, hg, hd, lt_df, lt_df, lt_df]
theorem toI0 : ¬ (Int32.toInt (0 : Int32) = 1) ∧ ¬ (Int32.toInt (0 : Int32) = 2) ∧ Int32.toInt (1 : Int32) = 1 ∧ ¬ (Int32.toInt (2 : Int32) = 1) ∧ Int32.toInt (2 : Int32) = 2 := by decide
theorem r_tire1 {p : Nat} (hI : IV R P S) (hW : RWd S hour broken rung grip want slips worn) (hL : RLd R P S rungs people room strength weight told) (hd : DEp deed moved p) (hp : p < P) : ∃ c t, f0_tire deed broken rung grip slips told (nn p) = f0_tire_J74 broken (nn p) rung grip slips (nn t) c ∧ f12_tires S moved (nn p) = f12_tires_J72 (nn p) (upd S (47 + 4 * p) c) ((46 : Int32) + (4 : Int32) * nn p + (1 : Int32)) ∧ (¬ c ≤ 0 → ∃ g, 1 ≤ g ∧ g ≤ t ∧ c = nn g) ∧ 1 ≤ t ∧ t < 31 ∧ S (63 + 2 * p) = nn t := by
  obtain ⟨g, t, hg1, hgt, ht, hgS, htS⟩ := hI.2.2 p hp
  have hP4 := hI.1.2.1
  have hp4 : p < 4 := by omega
  have j45 := m_j45 hp4 hgS htS
  have cls := c_tire (deed := deed) (moved := moved) (broken := broken) (rung := rung) (slips := slips) hp4 hd.1 ((hW.2.2.2.1 p hp4).trans hgS) ((hL.2.2.2.2.2 p hp).trans htS)
  rcases hd.2 with h | h | h
  · have e1 := m_tires (S := S) hp4 1 (Or.inl ⟨h, rfl⟩)
    rw [j45 1, nn_succ] at e1
    rw [h, if_neg toI0.1, if_neg toI0.2.1, nn_succ] at cls
    by_cases hle : g + 1 ≤ t
    · rw [if_pos (nleT (by omega) (by omega) hle)] at e1
      refine ⟨nn (g + 1), t, ?_, e1, fun _ => ⟨g + 1, by omega, hle, rfl⟩, by omega, ht, htS⟩
      by_cases hlt : g + 1 < t
      · rw [if_pos (nltT (by omega) (by omega) hlt)] at cls; exact cls
      · rw [if_neg (nlt (by omega) (by omega) hlt)] at cls
        have h9 : g + 1 = t := by omega
        rw [h9]; exact cls
    · rw [if_neg (nle (by omega) (by omega) hle)] at e1
      rw [if_neg (nlt (by omega) (by omega) (by omega))] at cls
      exact ⟨nn t, t, cls, e1, fun _ => ⟨t, by omega, by omega, rfl⟩, by omega, ht, htS⟩
  · have e1 := m_tires (S := S) hp4 (-1) (Or.inr (Or.inl ⟨h, rfl⟩))
    rw [j45 (-1), if_pos (gr_1 g (by omega) t ht hgt).1] at e1
    rw [h, if_pos toI0.2.2.1] at cls
    exact ⟨_, t, cls, e1, fun hc => ⟨g - 1, ((gr_1 g (by omega) t ht hgt).2 hc).1, by omega, ((gr_1 g (by omega) t ht hgt).2 hc).2⟩, by omega, ht, htS⟩
  · have e1 := m_tires (S := S) hp4 (-3) (Or.inr (Or.inr ⟨h, rfl⟩))
    rw [j45 (-3), if_pos (gr_3 g (by omega) t ht hgt).1] at e1
    rw [h, if_neg toI0.2.2.2.1, if_pos toI0.2.2.2.2] at cls
    exact ⟨_, t, cls, e1, fun hc => ⟨g - 3, ((gr_3 g (by omega) t ht hgt).2 hc).1, by omega, ((gr_3 g (by omega) t ht hgt).2 hc).2⟩, by omega, ht, htS⟩
theorem r_tire {p : Nat} (hI : IV R P S) (hW : RWd S hour broken rung grip want slips worn) (hL : RLd R P S rungs people room strength weight told) (hd : DEp deed moved p) (hp : p < P) (hup : ∃ k, k < R ∧ S (46 + 4 * p) = nn k) : ∃ v rung' grip' slips' S', f0_tire deed broken rung grip slips told (nn p) = some (v, rung', grip', slips') ∧ f12_tires S moved (nn p) = some (v, S') ∧ RWd S' hour broken rung' grip' want slips' worn ∧ IV R P S' ∧ St S S' ∧ (v = 0 ∨ v = 1) := by
  obtain ⟨c, t, e1, e2, hc, ht1, ht, htS⟩ := r_tire1 hI hW hL hd hp
  obtain ⟨k, hk, hx⟩ := hup
  have hR9 := hI.1.1
  have hP4 := hI.1.2.1
  have hp4 : p < 4 := by omega
  have hc0 : ¬ (nn p < 0 ∨ 4 ≤ p) := ng (by omega) (by omega)
  have hidx := ix_p1 hp4
  rw [e1, e2]
  unfold f0_tire_J74 f12_tires_J72
  rw [hidx.1, if_neg hidx.2, upd_at, nn_nat (by omega)]
  have hWs := hW.u_grip (p := p) c
  have hIs : IV0 R P (upd S (47 + 4 * p) c) := hI.1.u_cell (by omega)
  by_cases h0 : c ≤ 0
  · rw [if_pos h0, if_pos h0]
    obtain ⟨T, rung', slips', f1, f2, hW2, hI2, hSt2, hok2, h46, h13, h47⟩ := r_slide hIs hWs hp hk ((upd_ne (by omega)).trans (hx))
    have htT : T (63 + 2 * p) = nn t := by rw [hSt2.2.2.2 _ (by omega), upd_ne (by omega)]; exact htS
    rw [f1, f2]
    simp only [bnd1, bnd2, lt]
    rw [m_gripTold hp4, htT, if_neg hc0]
    simp only []
    have j115 : ∀ y : Int32, f12_tires_J115 T ((46 : Int32) + (4 : Int32) * nn p + (1 : Int32)) y = some (1, upd T (47 + 4 * p) y) := by
      intro y
      unfold f12_tires_J115
      rw [hidx.1, if_neg hidx.2]; rfl
    have hfin := hW2.u_grip (p := p) (nn (max 1 (t / 2)))
    rw [upd_upd] at hfin
    refine ⟨1, rung', upd grip p (nn (max 1 (t / 2))), slips', upd T (47 + 4 * p) (nn (max 1 (t / 2))), by rw [(gr_h t ht).1], ?_, hfin, ⟨hI2.u_cell (by omega), fun q hq => ?_, fun q hq => ?_⟩, (St.u_cell (by omega)).tr (hSt2.tr (St.u_cell (by omega))), Or.inr rfl⟩
    · have := (gr_h t ht).2
      by_cases h9 : (1 : Int32) ≤ nn t / 2
      · rw [if_pos h9] at this ⊢; rw [j115, this]
      · rw [if_neg h9] at this ⊢; rw [j115, this]
    · by_cases hqp : q = p
      · subst hqp; exact hok2.of hR9 (upd_ne (by omega)) (fun r hr => upd_ne (by omega))
      · exact (hI.2.1 q hq).of hR9 (by rw [upd_ne (by omega), h46 q hqp, upd_ne (by omega)]) (fun r hr => by rw [upd_ne (by omega), h13 r hr, upd_ne (by omega)])
    · by_cases hqp : q = p
      · subst hqp
        exact ⟨max 1 (t / 2), t, by omega, by omega, ht, upd_at, (upd_ne (by omega)).trans (htT)⟩
      · exact (hI.2.2 q hq).of (by rw [upd_ne (by omega), h47 q, upd_ne (by omega)]) (by rw [upd_ne (by omega), hSt2.2.2.2 _ (by omega), upd_ne (by omega)])
  · rw [if_neg h0, if_neg h0, if_neg hc0]
    obtain ⟨g, hg1, hgt, rfl⟩ := hc h0
    refine ⟨0, rung, upd grip p (nn g), slips, _, rfl, rfl, hWs, ⟨hIs, fun q hq => (hI.2.1 q hq).of hR9 (upd_ne (by omega)) (fun r hr => upd_ne (by omega)), fun q hq => ?_⟩, St.u_cell (by omega), Or.inl rfl⟩
    by_cases hqp : q = p
    · subst hqp
      exact ⟨g, t, hg1, hgt, ht, upd_at, (upd_ne (by omega)).trans (htS)⟩
    · exact (hI.2.2 q hq).of (upd_ne (by omega)) (upd_ne (by omega))
end
