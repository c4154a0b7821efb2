/-! move: the way filled, and walked -/
section
variable {S : Nat → Int32} {R P : Nat} {d : Nat → Nat} {L : List EN} {i : Nat} {far ow : Nat → Int32}
theorem m_way10 (hI : IV R P S) : ∃ ow1, iter (fun (z : (Nat → Int32) × Int32) => f12_fillsWay_B10 S z.1 z.2) FUEL (ow, (0 : Int32)) = some ow1 ∧ ∀ c, c < 9 ^ P → ow1 c = 0 := by
  have hP4 := hI.1.2.1
  have hp9 := pow9 hP4 (b := 9) (by omega)
  refine ⟨ov (9 ^ P) (fun _ => 0) ow, ?_, fun c hc => if_pos hc⟩
  rw [iter_for (s := (ow, (0 : Int32))) (st := fun k => (ov k (fun _ => 0) ow, nn k)) (n := 9 ^ P) (out := ov (9 ^ P) (fun _ => 0) ow) (by rw [ov_0]; rfl) (by omega) ?hs ?he]
  case hs =>
    intro k hk
    unfold f12_fillsWay_B10
    dsimp only
    rw [m_states hI.1.2.2.2.1 hP4, bnd1_s, if_neg (nle (by omega) (by omega) (by omega)), nn_nat (by omega), if_neg (ng (by omega) (by omega)), nar01 (Or.inl rfl), lt_df, lt_df, nn_succ]
    have := ov_upd (k := k) (f := fun _ => (0 : Int32)) (g := ow)
    rw [this]
  case he =>
    unfold f12_fillsWay_B10
    dsimp only
    rw [m_states hI.1.2.2.2.1 hP4, bnd1_s, if_pos (Int32.le_refl _)]
theorem WayA.put {set w : Int32} {D : Nat} {e : EN} (hG : GL R P S L) (h : WayA S P set D L (i + 1) ow) (hi : L[i]? = some e) (hw : ¬ w = 0 ↔ e.2.2.2 ≤ D ∧ onW S P set D L (D - e.2.2.2) i) : WayA S P set D L i (upd ow (cd9 P e) w) := by
  intro j y hj
  by_cases c : j = i
  · subst c
    rw [hj] at hi
    obtain rfl := Option.some.inj hi
    exact ⟨fun h => absurd h (Nat.lt_irrefl _), fun _ => by rw [upd_at]; exact hw⟩
  · have hne : cd9 P y ≠ cd9 P e := fun h => c (hG.ix hj hi h)
    rw [upd_ne hne]
    exact ⟨fun h2 => (h j y hj).1 (by omega), fun h2 => (h j y hj).2 (by omega)⟩
theorem WayA.skip {set : Int32} {D : Nat} {e : EN} (h : WayA S P set D L (i + 1) ow) (hi : L[i]? = some e) (hd : D < e.2.2.2) : WayA S P set D L i ow := by
  intro j y hj
  by_cases c : j = i
  · subst c
    rw [hj] at hi
    obtain rfl := Option.some.inj hi
    exact ⟨fun h => absurd h (Nat.lt_irrefl _), fun _ => ⟨fun h2 => absurd ((h j y hj).1 (by omega)) h2, fun h2 => by omega⟩⟩
  · exact ⟨fun h2 => (h j y hj).1 (by omega), fun h2 => (h j y hj).2 (by omega)⟩
theorem m_fillsWay {set mp mk : Int32} {D N : Nat} {queue : Nat → Int32} {queued : Int32} (hI : IV R P S) (hR : 0 < R) (hG : GL R P S L) (hA : RA P L far queue queued) (hS : SO S P L (32 * N)) (hD : ∀ x, x ∈ L → x.2.2.2 < 2147483647) (hN : L.length = N) (hDD : D < 2147483648) :
    ∃ ow1 mp1 mk1, f12_fillsWay S far queue queued ow mp mk set (nn D) = some (S, ow1, mp1, mk1) ∧ WayA S P set D L 0 ow1 := by
  have hR9 := hI.1.1
  have hP4 := hI.1.2.1
  have hlen := hG.len hR9 hP4
  obtain ⟨ow0, w1, w2⟩ := m_way10 (ow := ow) hI
  have hq0 : queue 0 = nn (hc 9 (d0F S) 0 P) := (hA.2.1 0 (e0 S) hS.1).1
  have h1L : 0 < L.length := (List.getElem?_eq_some_iff.mp hS.1).1
  obtain ⟨⟨s9, ow9, mp9, mk9⟩, e9, x9, hx9, rfl, hW9⟩ := iter_wfF (B := fun (z : (Nat → Int32) × (Nat → Int32) × Int32 × Int32 × Int32) => f12_fillsWay_B41 queue far (nn D) set z.1 z.2.1 z.2.2.1 z.2.2.2.1 z.2.2.2.2) (s := (S, ow0, mp, mk, hgt L.length)) (n := L.length)
    (I := fun m z => ∃ x, VD R P S x ∧ m ≤ L.length ∧ z.1 = SD P S x ∧ z.2.2.2.2 = hgt m ∧ WayA S P set D L m z.2.1)
    (Po := fun z => ∃ x, VD R P S x ∧ z.1 = SD P S x ∧ WayA S P set D L 0 z.2.1)
    ⟨d0F S, d0_VD hI hR, Nat.le_refl _, (SD_d0 hI).symm, rfl, fun j e hj => ⟨fun _ => w2 _ ((hG.2 e (List.mem_of_getElem? hj)).c9 hR9 hP4).1, fun h => by have := (List.getElem?_eq_some_iff.mp hj).1; omega⟩⟩ (by omega)
    (by
      rintro m ⟨s, ow, mp, mk, v⟩ ⟨x, hx, hm, rfl, rfl, hW⟩
      dsimp only at hW ⊢
      unfold f12_fillsWay_B41
      cases m with
      | zero =>
        right
        rw [hgt_0, if_pos (show (-1 : Int32) < 0 by decide)]
        exact ⟨_, rfl, x, hx, rfl, hW⟩
      | succ i =>
        left
        obtain ⟨e, he⟩ : ∃ e, L[i]? = some e := ⟨_, List.getElem?_eq_getElem (show i < L.length by omega)⟩
        have hem := List.mem_of_getElem? he
        have hev := hG.2 e hem
        have hc9 := hev.c9 hR9 hP4
        have hde := hD e hem
        have hqe : queue i = nn (hc 9 e.1 0 P) := (hA.2.1 i e he).1
        have hfe : far (hc 9 e.1 0 P) = nn e.2.2.2 := (hA.2.1 i e he).2
        have hup : nn i + -1 = hgt i := hgt_m i
        rw [hgt_succ, if_neg (nlt0 (by omega)), nn_nat (show i < 2147483648 by omega), if_neg (ng (by omega) (by omega)), hqe, lt_df, nn_nat (show hc 9 e.1 0 P < 2147483648 by omega), if_neg (ng (by omega) (by omega)), hfe]
        by_cases c1 : e.2.2.2 ≤ D
        · rw [if_pos (nleT (by omega) (by omega) c1), m_standsAs hI hev hx, bnd1_s, if_neg (ng (by omega) (by omega))]
          by_cases c2 : e.2.2.2 = D
          · rw [if_pos (show nn e.2.2.2 = nn D by rw [c2]), m_isGoal hI hev, bnd1_s]
            unfold f12_fillsWay_J104
            rw [nn_nat (show hc 9 e.1 0 P < 2147483648 by omega), if_neg (ng (by omega) (by omega)), lt_df, lt_df, hup]
            refine ⟨_, i, rfl, by omega, e.1, hev, by omega, rfl, rfl, ?_⟩
            refine hW.put hG he ?_
            have h0 : D - e.2.2.2 = 0 := by omega
            rw [h0]
            by_cases g : glF S set e.1 P = true
            · rw [if_pos g, nar01 (Or.inr rfl)]
              exact ⟨fun _ => ⟨c1, e, he, c2, g⟩, fun _ => by decide⟩
            · rw [if_neg g, nar01 (Or.inl rfl)]
              refine ⟨fun h => absurd rfl h, fun h => ?_⟩
              obtain ⟨-, e2, k1, -, k3⟩ := h
              rw [he] at k1
              obtain rfl := Option.some.inj k1
              exact absurd k3 g
          · rw [if_neg (show ¬ nn e.2.2.2 = nn D by rw [nn_eq (by omega) (by omega)]; exact c2)]
            have hq : ∀ m d', m < 32 → suc S P e.1 m = some d' → (Qm P e.1 far ow (hc 9 d' 0 P) ↔ ∃ (k : Nat) (z : EN), L[k]? = some z ∧ cd9 P z = hc 9 d' 0 P ∧ z.2.2.2 = e.2.2.2 + 1 ∧ e.2.2.2 + 1 ≤ D ∧ onW S P set D L (D - (e.2.2.2 + 1)) k) := fun m d' hm hs => way_q hI hG hA hS hD hN hW he (Nat.le_refl _) hm hs
            obtain ⟨n, hn⟩ : ∃ n, D - e.2.2.2 = n + 1 := ⟨D - e.2.2.2 - 1, by omega⟩
            have hn2 : D - (e.2.2.2 + 1) = n := by omega
            rcases m_findsMove (far := far) (ow := ow) (mp := mp) (mk := mk) hI hev with ⟨k1, k2⟩ | ⟨m0, d', k1, k2, k3, k4, k5⟩
            · rw [k2, bnd4_s]
              unfold f12_fillsWay_J104
              rw [nn_nat (show hc 9 e.1 0 P < 2147483648 by omega), if_neg (ng (by omega) (by omega)), lt_df, lt_df, hup, nar01 (Or.inl rfl)]
              refine ⟨_, i, rfl, by omega, e.1, hev, by omega, rfl, rfl, ?_⟩
              refine hW.put hG he ⟨fun h => absurd rfl h, fun h => ?_⟩
              obtain ⟨h1, h2⟩ := h
              rw [hn] at h2
              obtain ⟨e2, q1, q2, m, d', k, z, q3, q4, q5, q6, q7, q8⟩ := h2
              rw [he] at q1
              obtain rfl := Option.some.inj q1
              exact absurd ((hq m d' q3 q4).mpr ⟨k, z, q5, q6, q7, by omega, by rw [hn2]; exact q8⟩) (k1 m q3 d' q4)
            · rw [k5, bnd4_s]
              unfold f12_fillsWay_J104
              rw [nn_nat (show hc 9 e.1 0 P < 2147483648 by omega), if_neg (ng (by omega) (by omega)), lt_df, lt_df, hup, nar01 (Or.inr rfl)]
              refine ⟨_, i, rfl, by omega, e.1, hev, by omega, rfl, rfl, ?_⟩
              refine hW.put hG he ⟨fun _ => ?_, fun _ => by decide⟩
              obtain ⟨k, z, q5, q6, q7, q8, q9⟩ := (hq m0 d' k1 k3).mp k4
              rw [hn]
              rw [hn2] at q9
              exact ⟨c1, e, he, by omega, m0, d', k, z, k1, k3, q5, q6, q7, q9⟩
        · rw [if_neg (nle (by omega) (by omega) (by omega)), lt_df, hup]
          exact ⟨_, i, rfl, by omega, x, hx, by omega, rfl, rfl, hW.skip he (by omega)⟩)
  refine ⟨ow9, mp9, mk9, ?_, hW9⟩
  have hst := m_standsAs hI (d0_VD hI hR) hx9
  rw [SD_d0 hI] at hst
  have hq1 : queued - 1 = hgt L.length := by rw [hA.1]; rfl
  unfold f12_fillsWay
  rw [lt_df, w1, bnd1_s, lt_df, hq1, e9, bnd4_s, hq0, hst, bnd1_s]
/-- the row of places that leads to a place, from its end -/
def pI (L : List EN) (g : Nat) : Nat → Nat
  | 0 => g
  | n + 1 => match L[pI L g n]? with
    | some e => e.2.1
    | none => 0
theorem pI_s {g n : Nat} {e : EN} (h : L[pI L g n]? = some e) : pI L g (n + 1) = e.2.1 := by
  show (match L[pI L g n]? with
    | some e => e.2.1
    | none => 0) = _
  rw [h]
theorem pI_ok {g T : Nat} {x : EN} (hS : SO S P L T) (hg : L[g]? = some x) : ∀ n, n ≤ x.2.2.2 → ∃ e : EN, L[pI L g n]? = some e ∧ e.2.2.2 + n = x.2.2.2 ∧ pI L g n ≤ g
  | 0, _ => ⟨x, hg, rfl, Nat.le_refl _⟩
  | n + 1, h => by
    obtain ⟨e, h1, h2, h3⟩ := pI_ok hS hg n (by omega)
    have h0 : 0 < pI L g n := by
      rcases Nat.eq_zero_or_pos (pI L g n) with c | c
      · rw [c, hS.1] at h1
        obtain rfl := Option.some.inj h1
        have : (e0 S).2.2.2 = 0 := rfl
        omega
      · exact c
    obtain ⟨-, a1, a2, pe, a3, a4, -⟩ := hS.2.1 _ e h0 h1
    rw [pI_s h1]
    exact ⟨pe, a3, by omega, by omega⟩
/-- one step of the row: the parent, the move, and the child -/
theorem pI_step {g n T : Nat} {x : EN} (hS : SO S P L T) (hg : L[g]? = some x) (hn : n < x.2.2.2) : ∃ e z : EN, L[pI L g (n + 1)]? = some e ∧ L[pI L g n]? = some z ∧ z.2.1 = pI L g (n + 1) ∧ 0 < pI L g n ∧ z.2.2.1 < 32 ∧ z.2.2.2 = e.2.2.2 + 1 ∧ z.2.2.2 + n = x.2.2.2 ∧ suc S P e.1 z.2.2.1 = some z.1 := by
  obtain ⟨z, h1, h2, h3⟩ := pI_ok hS hg n (by omega)
  have h0 : 0 < pI L g n := by
    rcases Nat.eq_zero_or_pos (pI L g n) with c | c
    · rw [c, hS.1] at h1
      obtain rfl := Option.some.inj h1
      have : (e0 S).2.2.2 = 0 := rfl
      omega
    · exact c
  obtain ⟨-, a1, a2, pe, a3, a4, a5⟩ := hS.2.1 _ z h0 h1
  have := pI_s h1
  exact ⟨pe, z, by rw [this]; exact a3, h1, this.symm, h0, a2, a4, h2, a5⟩
theorem pI_on {set : Int32} {g T : Nat} {x : EN} (hS : SO S P L T) (hg : L[g]? = some x) (hx : glF S set x.1 P = true) : ∀ n, n ≤ x.2.2.2 → onW S P set x.2.2.2 L n (pI L g n)
  | 0, _ => ⟨x, hg, rfl, hx⟩
  | n + 1, h => by
    obtain ⟨e, z, h1, h2, h3, h4, h5, h6, h7, h8⟩ := pI_step hS hg (show n < x.2.2.2 by omega)
    exact ⟨e, h1, by omega, z.2.2.1, z.1, pI L g n, z, h5, h8, h2, rfl, h6, pI_on hS hg hx n (by omega)⟩
theorem SO.tm_le {T j k : Nat} {x y : EN} (h : SO S P L T) (hj : 0 < j) (hjk : j ≤ k) (hx : L[j]? = some x) (hy : L[k]? = some y) : tm x ≤ tm y := by
  by_cases e : j = k
  · subst e
    rw [hx] at hy
    obtain rfl := Option.some.inj hy
    exact Nat.le_refl _
  · exact Nat.le_of_lt (h.2.2.1 j k x y hj (by omega) hx hy)
/-- it is the first of all such rows -/
theorem pI_min {set : Int32} {g N : Nat} {x : EN} (hG : GL R P S L) (hS : SO S P L (32 * N)) (hN : L.length = N) (hg : L[g]? = some x) (hlow : ∀ (j : Nat) (y : EN), j < g → L[j]? = some y → glF S set y.1 P = false) : ∀ n, n ≤ x.2.2.2 → ∀ j, onW S P set x.2.2.2 L n j → pI L g n ≤ j
  | 0, _, j, h => by
    obtain ⟨e, h1, h2, h3⟩ := h
    refine Nat.le_of_not_lt (fun c => ?_)
    rw [hlow j e c h1] at h3; cases h3
  | n + 1, h, j, hj => by
    obtain ⟨e, h1, h2, m, d', k, z, h3, h4, h5, h6, h7, h8⟩ := hj
    have ih := pI_min hG hS hN hg hlow n (by omega) k h8
    obtain ⟨e', z', g1, g2, g3, g4, g5, g6, g7, g8⟩ := pI_step hS hg (show n < x.2.2.2 by omega)
    have hjl := (List.getElem?_eq_some_iff.mp h1).1
    obtain ⟨k2, z2, a1, a2, a3⟩ := hS.2.2.2 j m e d' (by omega) h3 h1 h4
    have hkk := hG.ix a1 h5 (a2.trans h6.symm)
    subst hkk
    rw [a1] at h5
    obtain rfl := Option.some.inj h5
    have ht := hS.tm_le g4 ih g2 a1
    rcases a3 with a3 | a3
    · omega
    · unfold tm at ht a3
      rw [g3] at ht
      omega
/-- the first move on the way is the row's -/
theorem way_step {set mp mk : Int32} {g N n : Nat} {x : EN} {queue : Nat → Int32} {queued : Int32} (hI : IV R P S) (hG : GL R P S L) (hA : RA P L far queue queued) (hS : SO S P L (32 * N)) (hD : ∀ x, x ∈ L → x.2.2.2 < 2147483647) (hN : L.length = N) (hg : L[g]? = some x) (hx : glF S set x.1 P = true) (hlow : ∀ (j : Nat) (y : EN), j < g → L[j]? = some y → glF S set y.1 P = false) (hW : WayA S P set x.2.2.2 L 0 ow) (hn : n < x.2.2.2) :
    ∃ e z : EN, L[pI L g (n + 1)]? = some e ∧ L[pI L g n]? = some z ∧ z.2.2.1 < 32 ∧ suc S P e.1 z.2.2.1 = some z.1 ∧ f12_findsMove (SD P S e.1) far ow mp mk = some (1, SD P S e.1, nn (z.2.2.1 / 8), nn (kd z.2.2.1)) := by
  obtain ⟨e, z, g1, g2, g3, g4, g5, g6, g7, g8⟩ := pI_step hS hg hn
  have hev := hG.2 e (List.mem_of_getElem? g1)
  have hmin := pI_min hG hS hN hg hlow n (by omega)
  have hon := pI_on hS hg hx n (by omega)
  have hq := fun m d' (hm : m < 32) (hs : suc S P e.1 m = some d') => way_q (far := far) hI hG hA hS hD hN hW g1 (Nat.zero_le _) hm hs
  have hdn : x.2.2.2 - (e.2.2.2 + 1) = n := by omega
  have hQ : Qm P e.1 far ow (hc 9 z.1 0 P) := (hq z.2.2.1 z.1 g5 g8).mpr ⟨_, z, g2, rfl, g6, by omega, by rw [hdn]; exact hon⟩
  refine ⟨e, z, g1, g2, g5, g8, ?_⟩
  rcases m_findsMove (far := far) (ow := ow) (mp := mp) (mk := mk) hI hev with ⟨k1, -⟩ | ⟨m0, d', k1, k2, k3, k4, k5⟩
  · exact absurd hQ (k1 _ g5 _ g8)
  · have hm : m0 = z.2.2.1 := by
      rcases Nat.lt_trichotomy m0 z.2.2.1 with c | c | c
      · exfalso
        obtain ⟨k, y, a1, a2, a3, a4, a5⟩ := (hq m0 d' k1 k3).mp k4
        rw [hdn] at a5
        have h1 := hmin k a5
        have ht := hS.tm_le g4 h1 g2 a1
        have hil := (List.getElem?_eq_some_iff.mp g1).1
        obtain ⟨k2', y2, b1, b2, b3⟩ := hS.2.2.2 (pI L g (n + 1)) m0 e d' (by omega) k1 g1 k3
        have hkk := hG.ix b1 a1 (b2.trans a2.symm)
        subst hkk
        rw [b1] at a1
        obtain rfl := Option.some.inj a1
        rcases b3 with b3 | b3
        · omega
        · unfold tm at ht b3
          rw [g3] at ht
          omega
      · exact c
      · exact absurd hQ (k2 _ c _ g8)
    rw [hm] at k5
    exact k5
theorem pI_ext {T : List EN} {g Tm : Nat} {x : EN} (hS : SO S P L Tm) (hg : L[g]? = some x) : ∀ n, n ≤ x.2.2.2 → pI (L ++ T) g n = pI L g n
  | 0, _ => rfl
  | n + 1, h => by
    have ih := pI_ext (T := T) hS hg n (by omega)
    obtain ⟨e, h1, -, -⟩ := pI_ok hS hg n (by omega)
    have h2 : (L ++ T)[pI (L ++ T) g n]? = some e := by
      rw [ih, List.getElem?_append_left ((List.getElem?_eq_some_iff.mp h1).1)]; exact h1
    rw [pI_s h1, pI_s h2]
theorem suc_some {m : Nat} {d' : Nat → Nat} (hP4 : P < 5) (h : suc S P d m = some d') : m / 8 < P ∧ mvK (m / 8) (kd m) = m ∧ kd m < P + 1 - m / 8 ∧ (m % 8 < 2 ∨ (m / 8 + 2 < m % 8 ∧ 2 ≤ kd m)) := by
  unfold suc at h
  by_cases c1 : P ≤ m / 8
  · rw [if_pos c1] at h; cases h
  · rw [if_neg c1] at h
    by_cases c2 : S (46 + 4 * (m / 8)) < 0
    · rw [if_pos c2] at h; cases h
    · rw [if_neg c2] at h
      by_cases c3 : m % 8 < 2
      · have hk : kd m = m % 8 := if_pos c3
        refine ⟨by omega, ?_, by omega, Or.inl c3⟩
        unfold mvK
        rw [hk, if_pos c3]; omega
      · rw [if_neg c3] at h
        by_cases c4 : m % 8 - 2 ≤ m / 8 ∨ P ≤ m % 8 - 2
        · rw [if_pos c4] at h; cases h
        · have hk : kd m = m % 8 - m / 8 - 1 := if_neg c3
          refine ⟨by omega, ?_, by omega, Or.inr ⟨by omega, by omega⟩⟩
          unfold mvK
          rw [hk, if_neg (by omega)]; omega
/-- the walk -/
theorem m_walk {set mp mk : Int32} {g N k : Nat} {x : EN} {queue : Nat → Int32} {queued : Int32} (hI : IV R P S) (hR : 0 < R) (hG : GL R P S L) (hA : RA P L far queue queued) (hS : SO S P L (32 * N)) (hD : ∀ x, x ∈ L → x.2.2.2 < 2147483647) (hN : L.length = N) (hg : L[g]? = some x) (hx : glF S set x.1 P = true) (hlow : ∀ (j : Nat) (y : EN), j < g → L[j]? = some y → glF S set y.1 P = false) (hW : WayA S P set x.2.2.2 L 0 ow) (hk : k < x.2.2.2) (hx6 : x.2.2.2 < 10000) :
    ∃ (s9 : Nat → Int32) (y z : EN) (e : EN), iter (fun (z : (Nat → Int32) × Int32 × Int32 × Int32) => f12_move_B70 (nn k) far ow z.1 z.2.1 z.2.2.1 z.2.2.2) FUEL (S, mp, mk, (0 : Int32)) = some (s9, nn (z.2.2.1 / 8), nn (kd z.2.2.1)) ∧ s9 = SD P S y.1 ∧ VD R P S y.1 ∧ L[pI L g (x.2.2.2 - k - 1)]? = some z ∧ suc S P e.1 z.2.2.1 = some z.1 ∧ z.2.2.1 < 32 := by
  have hP4 := hI.1.2.1
  have h0 : ∃ e : EN, L[pI L g x.2.2.2]? = some e ∧ S = SD P S e.1 := by
    obtain ⟨e, h1, h2, -⟩ := pI_ok hS hg x.2.2.2 (Nat.le_refl _)
    refine ⟨e, h1, ?_⟩
    have : pI L g x.2.2.2 = 0 := by
      rcases Nat.eq_zero_or_pos (pI L g x.2.2.2) with c | c
      · exact c
      · obtain ⟨-, -, -, pe, -, a4, -⟩ := hS.2.1 _ e c h1
        omega
    rw [this, hS.1] at h1
    obtain rfl := Option.some.inj h1
    exact (SD_d0 hI).symm
  obtain ⟨⟨s9, mp9, mk9⟩, e9, y, z, e, rfl, h2, h3, h4, h5, rfl, rfl⟩ := iter_wfF (B := fun (z : (Nat → Int32) × Int32 × Int32 × Int32) => f12_move_B70 (nn k) far ow z.1 z.2.1 z.2.2.1 z.2.2.2) (s := (S, mp, mk, (0 : Int32))) (n := k + 1)
    (I := fun m s => (∃ i, m + i = k + 1 ∧ i ≤ k ∧ s.2.2.2 = nn i ∧ ∃ e : EN, L[pI L g (x.2.2.2 - i)]? = some e ∧ s.1 = SD P S e.1) ∨ (m = 0 ∧ s.2.2.2 = nn (k + 1) ∧ ∃ (y z e : EN), s.1 = SD P S y.1 ∧ VD R P S y.1 ∧ L[pI L g (x.2.2.2 - k - 1)]? = some z ∧ suc S P e.1 z.2.2.1 = some z.1 ∧ z.2.2.1 < 32 ∧ s.2.1 = nn (z.2.2.1 / 8) ∧ s.2.2.1 = nn (kd z.2.2.1)))
    (Po := fun s => ∃ (y z e : EN), s.1 = SD P S y.1 ∧ VD R P S y.1 ∧ L[pI L g (x.2.2.2 - k - 1)]? = some z ∧ suc S P e.1 z.2.2.1 = some z.1 ∧ z.2.2.1 < 32 ∧ s.2.1 = nn (z.2.2.1 / 8) ∧ s.2.2 = nn (kd z.2.2.1))
    (Or.inl ⟨0, rfl, Nat.zero_le _, rfl, h0⟩) (by omega)
    (by
      rintro m ⟨s, mp, mk, v⟩ h
      dsimp only at h ⊢
      unfold f12_move_B70
      rcases h with ⟨i, hm, hik, rfl, e, he, rfl⟩ | ⟨rfl, rfl, h⟩
      · left
        obtain ⟨e', z, w1, w2, w3, w4, w5⟩ := way_step (mp := mp) (mk := mk) (n := x.2.2.2 - i - 1) hI hG hA hS hD hN hg hx hlow hW (by omega)
        rw [show x.2.2.2 - i - 1 + 1 = x.2.2.2 - i by omega, he] at w1
        obtain rfl := Option.some.inj w1
        have hev := hG.2 e (List.mem_of_getElem? he)
        obtain ⟨s1, s2, s3, s4⟩ := suc_some hP4 w4
        rw [if_neg (show ¬ nn k < nn i by rw [nn_lt (by omega) (by omega)]; omega), w5, bnd4_s]
        by_cases c : i = k
        · subst c
          rw [if_pos (Int32.le_refl _), lt_df, nn_succ]
          exact ⟨_, 0, rfl, by omega, Or.inr ⟨rfl, rfl, e, z, e, rfl, hev, w2, w4, w3, rfl, rfl⟩⟩
        · have hcb := m_codeBehind (k := kd z.2.2.1) hI hev s1 s3
          rw [s2, w4] at hcb
          have hzv := suc_VD hI hev w4
          rw [if_neg (nle (by omega) (by omega) (by omega)), hcb, bnd2_s, show cdO P (some z.1) = nn (hc 9 z.1 0 P) from rfl, m_standsAs hI hzv hev, bnd1_s, lt_df, nn_succ]
          refine ⟨_, m - 1, rfl, by omega, Or.inl ⟨i + 1, by omega, by omega, rfl, z, ?_, rfl⟩⟩
          rw [show x.2.2.2 - (i + 1) = x.2.2.2 - i - 1 by omega]; exact w2
      · right
        rw [if_pos (show nn k < nn (k + 1) by rw [nn_lt (by omega) (by omega)]; omega)]
        exact ⟨_, rfl, h⟩)
  exact ⟨_, y, z, e, e9, rfl, h2, h3, h4, h5⟩
/-- what a told move is, in the class -/
def tV (m : Nat) (w : Int32) : Int32 := if Int32.toInt w = 0 then nn (m / 8) else if Int32.toInt w = 1 then (if m % 8 < 2 then nn (m % 8) else 2) else (if m % 8 < 2 then -1 else nn (m % 8 - 2))
theorem c_told {from_ queue : Nat → Int32} {tail w : Int32} {g T k : Nat} {x : EN} (hA : CA R P L from_ queue tail) (hG : GL R P S L) (hS : SO S P L T) (hR9 : R < 10) (hP4 : P < 5) (hg : L[g]? = some x) (hk : k < x.2.2.2) (hx6 : x.2.2.2 < 10000) : ∃ z : EN, L[pI L g (x.2.2.2 - k - 1)]? = some z ∧ f4_toldMove 6561 from_ (nn (cdR R P x)) (nn x.2.2.2) (nn k) w = some (tV z.2.2.1 w) := by
  have div64 : ∀ c m : Nat, c < 6561 → m < 32 → nn (c * 64 + m) / 64 = nn c := by
    intro c m hc hm
    have := pk_div (a := c * 64 + m) (d := 64) (by omega) (by decide) (by decide)
    rw [show nn (c * 64 + m) / 64 = nn ((c * 64 + m) / 64) from this]
    congr 1
    omega
  obtain ⟨a, e9, z, hz, rfl⟩ := iter_wfF (B := fun (z : Int32 × Int32) => f4_toldMove_B13 (nn k) 6561 from_ z.1 z.2) (s := (nn (cdR R P x), hgt x.2.2.2)) (n := x.2.2.2)
    (I := fun m s => ∃ (t : Nat) (y : EN), m + t = x.2.2.2 ∧ t ≤ x.2.2.2 - k - 1 ∧ L[pI L g t]? = some y ∧ s.1 = nn (cdR R P y) ∧ s.2 = hgt (x.2.2.2 - t))
    (Po := fun a => ∃ z : EN, L[pI L g (x.2.2.2 - k - 1)]? = some z ∧ a = nn (cdR R P z))
    ⟨0, x, rfl, Nat.zero_le _, hg, rfl, rfl⟩ (by omega)
    (by
      rintro m ⟨v1, v2⟩ ⟨t, y, hm, ht, hy, rfl, rfl⟩
      dsimp only
      unfold f4_toldMove_B13
      have hcy : cdR R P y < 6561 := (hG.2 y (List.mem_of_getElem? hy)).cR hR9 hP4
      obtain ⟨q, hq⟩ : ∃ q, x.2.2.2 - t = q + 1 := ⟨x.2.2.2 - t - 1, by omega⟩
      rw [hq, hgt_succ]
      by_cases c : q ≤ k
      · right
        rw [if_pos (nleT (by omega) (by omega) c)]
        refine ⟨_, rfl, y, ?_, rfl⟩
        rw [show x.2.2.2 - k - 1 = t by omega]; exact hy
      · left
        obtain ⟨e, z, g1, g2, g3, g4, g5, g6, g7, g8⟩ := pI_step hS hg (show t < x.2.2.2 by omega)
        rw [hy] at g2
        obtain rfl := Option.some.inj g2
        have hb : ¬ (nn (cdR R P y) < 0 ∨ 6561 ≤ cdR R P y) := ng (by omega) (by omega)
        rw [if_neg (nle (by omega) (by omega) (by omega)), nn_nat (show cdR R P y < 2147483648 by omega), if_neg hb]
        rcases (hA.2.1 _ y hy).2 with ⟨h0, -⟩ | ⟨h0, hm32, pe, hp, hf⟩
        · omega
        · rw [g3, g1] at hp
          obtain rfl := Option.some.inj hp
          have hce : cdR R P e < 6561 := (hG.2 e (List.mem_of_getElem? g1)).cR hR9 hP4
          rw [hf, div64 _ _ hce hm32, lt_df, lt_df, hgt_m q]
          refine ⟨_, m - 1, rfl, by omega, t + 1, e, by omega, by omega, g1, rfl, ?_⟩
          rw [show x.2.2.2 - (t + 1) = q by omega])
  refine ⟨z, hz, ?_⟩
  have hcz : cdR R P z < 6561 := (hG.2 z (List.mem_of_getElem? hz)).cR hR9 hP4
  obtain ⟨e, z', g1, g2, g3, g4, g5, g6, g7, g8⟩ := pI_step hS hg (show x.2.2.2 - k - 1 < x.2.2.2 by omega)
  rw [hz] at g2
  obtain rfl := Option.some.inj g2
  have hb : ¬ (nn (cdR R P z) < 0 ∨ 6561 ≤ cdR R P z) := ng (by omega) (by omega)
  unfold f4_toldMove
  rw [lt_df, show nn x.2.2.2 - 1 = hgt x.2.2.2 from rfl, e9, bnd1_s, nn_nat (show cdR R P z < 2147483648 by omega), if_neg hb]
  rcases (hA.2.1 _ z hz).2 with ⟨h0, -⟩ | ⟨h0, hm32, pe, hp, hf⟩
  · omega
  · rw [g3, g1] at hp
    obtain rfl := Option.some.inj hp
    have hce : cdR R P e < 6561 := (hG.2 e (List.mem_of_getElem? g1)).cR hR9 hP4
    have k64 : (64 : Int32) = nn 64 := rfl
    have k8 : (8 : Int32) = nn 8 := rfl
    have e1 : nn (cdR R P e * 64 + z.2.2.1) - nn (cdR R P e) * 64 = nn z.2.2.1 := by
      rw [k64, nn_mul, nn_sub (by omega)]; congr 1; omega
    have d8 : nn z.2.2.1 / 8 = nn (z.2.2.1 / 8) := pk_div (a := z.2.2.1) (d := 8) (by omega) (by decide) (by decide)
    have e2 : nn z.2.2.1 - nn (z.2.2.1 / 8) * 8 = nn (z.2.2.1 % 8) := by
      rw [k8, nn_mul, nn_sub (by omega)]; congr 1; omega
    have hx2 : (if nn (z.2.2.1 % 8) < 2 then nn (z.2.2.1 % 8) else (2 : Int32)) = if z.2.2.1 % 8 < 2 then nn (z.2.2.1 % 8) else 2 := by
      have : (nn (z.2.2.1 % 8) < 2) = (z.2.2.1 % 8 < 2) := nn_lt (b := 2) (by omega) (by decide)
      by_cases c : z.2.2.1 % 8 < 2
      · rw [if_pos c, if_pos (by rw [this]; exact c)]
      · rw [if_neg c, if_neg (by rw [this]; exact c)]
    rw [hf, div64 _ _ hce hm32, e1, lt_df, d8, e2, hx2, lt_df]
    unfold tV
    by_cases w0 : Int32.toInt w = 0
    · rw [if_pos w0, if_pos w0, lt_df]
    · rw [if_neg w0, if_neg w0]
      by_cases w1 : Int32.toInt w = 1
      · rw [if_pos w1, if_pos w1]
      · rw [if_neg w1, if_neg w1]
        by_cases c : z.2.2.1 % 8 < 2
        · have hn2 : ¬ nn (z.2.2.1 % 8) = 2 := by
            have : (nn (z.2.2.1 % 8) = nn 2) = (z.2.2.1 % 8 = 2) := nn_eq (by omega) (by decide)
            intro h
            have h2 : z.2.2.1 % 8 = 2 := this ▸ h
            omega
          rw [if_pos c, if_neg hn2, if_pos c]
        · have : nn (z.2.2.1 % 8) - 2 = nn (z.2.2.1 % 8 - 2) := nn_sub (b := 2) (by omega)
          rw [if_neg c, if_pos rfl, if_neg c, this, lt_df]
end
