/-! move: the reference's way -/
def kd (m : Nat) : Nat := if m % 8 < 2 then m % 8 else m % 8 - m / 8 - 1
def Qm (P : Nat) (d : Nat → Nat) (far ow : Nat → Int32) (c : Nat) : Prop := far c = far (hc 9 d 0 P) + 1 ∧ ¬ ow c = 0
def NoM (S : Nat → Int32) (P : Nat) (d : Nat → Nat) (far ow : Nat → Int32) (n : Nat) : Prop := ∀ m, m < n → ∀ d', suc S P d m = some d' → ¬ Qm P d far ow (hc 9 d' 0 P)
section
variable {S : Nat → Int32} {R P : Nat} {d : Nat → Nat} {L : List EN} {i : Nat} {far ow : Nat → Int32}
theorem kd_mv {p k : Nat} (hP4 : P < 5) (hp : p < P) (hk : k < P + 1 - p) : kd (mvK p k) = k := by
  obtain ⟨h1, h2⟩ := mvK_8 hP4 hp hk
  unfold kd
  rw [h2, h1]
  by_cases c : k < 2
  · rw [if_pos c, if_pos c]
  · rw [if_neg c, if_neg (by omega)]; omega
theorem suc_gap {p k m : Nat} (hP4 : P < 5) (hp : p < P) (hk : k < P + 1 - p) (h1 : mvK p k < m) (h2 : m < mvK p (k + 1)) : suc S P d m = none := by
  unfold mvK at h1 h2
  by_cases h : k = 1
  · subst h
    rw [if_pos (by omega)] at h1
    rw [if_neg (by omega)] at h2
    exact suc_q (by omega) (Or.inl (by omega))
  · exfalso
    split at h1 <;> split at h2 <;> omega
theorem suc_gapE {p m : Nat} (hP4 : P < 5) (hp : p < P) (h1 : mvK p (P + 1 - p) ≤ m) (h2 : m < 8 * (p + 1)) : suc S P d m = none := by
  unfold mvK at h1
  rw [if_neg (by omega)] at h1
  exact suc_q (by omega) (Or.inr (by omega))
theorem NoM.next {p k : Nat} (h : NoM S P d far ow (mvK p k)) (hP4 : P < 5) (hp : p < P) (hk : k < P + 1 - p) (hq : ∀ d', suc S P d (mvK p k) = some d' → ¬ Qm P d far ow (hc 9 d' 0 P)) : NoM S P d far ow (mvK p (k + 1)) := by
  intro m hm d' hs
  rcases Nat.lt_trichotomy m (mvK p k) with c | c | c
  · exact h m c d' hs
  · subst c; exact hq d' hs
  · rw [suc_gap hP4 hp hk c hm] at hs; cases hs
theorem NoM.all {p : Nat} (h : NoM S P d far ow (mvK p (P + 1 - p))) (hP4 : P < 5) (hp : p < P) : NoM S P d far ow (8 * (p + 1)) := by
  intro m hm d' hs
  by_cases c : m < mvK p (P + 1 - p)
  · exact h m c d' hs
  · rw [suc_gapE hP4 hp (by omega) hm] at hs; cases hs
theorem NoM.allT {T : Nat} (h : NoM S P d far ow (8 * P)) : NoM S P d far ow T := by
  intro m hm d' hs
  by_cases c : m < 8 * P
  · exact h m c d' hs
  · rw [suc_far (by omega)] at hs; cases hs
theorem m_finds19 {p : Nat} {mp mk : Int32} (hI : IV R P S) (hd : VD R P S d) (hp : p < P) (h0 : NoM S P d far ow (8 * p)) :
    ∃ a, iter (fun (z : (Nat → Int32) × Int32 × Int32 × Int32) => f12_findsMove_B19 (nn p) (nn (hc 9 d 0 P)) far ow z.1 z.2.1 z.2.2.1 z.2.2.2) FUEL (SD P S d, mp, mk, (0 : Int32)) = some a ∧
      ((a = .inr (SD P S d, mp, mk) ∧ NoM S P d far ow (8 * (p + 1))) ∨ (∃ (m : Nat) (d' : Nat → Nat), m < 32 ∧ NoM S P d far ow m ∧ suc S P d m = some d' ∧ Qm P d far ow (hc 9 d' 0 P) ∧ a = .inl ((1 : Int32), SD P S d, nn (m / 8), nn (kd m)))) := by
  have hR9 := hI.1.1
  have hP4 := hI.1.2.1
  have hI2 := IV_SD hI hd
  have hc9 := hd.c9 hR9 hP4
  refine iter_wfF (B := fun (z : (Nat → Int32) × Int32 × Int32 × Int32) => f12_findsMove_B19 (nn p) (nn (hc 9 d 0 P)) far ow z.1 z.2.1 z.2.2.1 z.2.2.2) (s := (SD P S d, mp, mk, (0 : Int32))) (n := 8)
    (I := fun m z => ∃ k, m + k = 8 ∧ k ≤ P + 1 - p ∧ z = (SD P S d, mp, mk, nn k) ∧ NoM S P d far ow (mvK p k))
    (Po := fun a => (a = .inr (SD P S d, mp, mk) ∧ NoM S P d far ow (8 * (p + 1))) ∨ (∃ (m : Nat) (d' : Nat → Nat), m < 32 ∧ NoM S P d far ow m ∧ suc S P d m = some d' ∧ Qm P d far ow (hc 9 d' 0 P) ∧ a = .inl ((1 : Int32), SD P S d, nn (m / 8), nn (kd m))))
    ⟨0, rfl, Nat.zero_le _, rfl, by
      have : mvK p 0 = 8 * p := by unfold mvK; rw [if_pos (by omega)]; omega
      rw [this]; exact h0⟩ (by omega) ?_
  rintro m _ ⟨k, hm, hk, rfl, hNo⟩
  dsimp only
  unfold f12_findsMove_B19
  rw [m_kinds (S := SD P S d) hI2.1.2.2.2.1 hP4 hp, bnd1_s]
  by_cases hkl : k < P + 1 - p
  · have go : ∀ (X : Option (((Nat → Int32) × Int32 × Int32 × Int32) ⊕ ((Int32 × (Nat → Int32) × Int32 × Int32) ⊕ ((Nat → Int32) × Int32 × Int32)))), X = some (.inl (SD P S d, mp, mk, nn (k + 1))) → (∀ d', suc S P d (mvK p k) = some d' → ¬ Qm P d far ow (hc 9 d' 0 P)) → (∃ s' m', X = some (.inl s') ∧ m' < m ∧ ∃ k, m' + k = 8 ∧ k ≤ P + 1 - p ∧ s' = (SD P S d, mp, mk, nn k) ∧ NoM S P d far ow (mvK p k)) ∨ (∃ a, X = some (.inr a) ∧ ((a = .inr (SD P S d, mp, mk) ∧ NoM S P d far ow (8 * (p + 1))) ∨ (∃ (m : Nat) (d' : Nat → Nat), m < 32 ∧ NoM S P d far ow m ∧ suc S P d m = some d' ∧ Qm P d far ow (hc 9 d' 0 P) ∧ a = .inl ((1 : Int32), SD P S d, nn (m / 8), nn (kd m))))) := by
      intro X hX hq
      exact Or.inl ⟨_, m - 1, hX, by omega, k + 1, by omega, by omega, rfl, hNo.next hP4 hp hkl hq⟩
    rw [if_neg (nle (by omega) (by omega) (by omega)), m_codeBehind hI hd hp hkl, bnd2_s]
    cases hs : suc S P d (mvK p k) with
    | none =>
      refine go _ ?_ (fun d' h => by rw [hs] at h; cases h)
      rw [show cdO P none = -1 from rfl, if_pos (show (-1 : Int32) < 0 by decide), lt_df, nn_succ]
    | some d' =>
      have hv := suc_VD hI hd hs
      have hv9 := hv.c9 hR9 hP4
      rw [show cdO P (some d') = nn (hc 9 d' 0 P) from rfl, if_neg (nlt0 (by omega)), nn_nat (show hc 9 d' 0 P < 2147483648 by omega), nn_nat (show hc 9 d 0 P < 2147483648 by omega), if_neg (ng (a := hc 9 d' 0 P) (n := 6561) (by omega) (by omega)), if_neg (ng (a := hc 9 d 0 P) (n := 6561) (by omega) (by omega))]
      by_cases q1 : far (hc 9 d' 0 P) = far (hc 9 d 0 P) + 1
      · rw [if_pos q1, if_neg (ng (a := hc 9 d' 0 P) (n := 6561) (by omega) (by omega))]
        by_cases q2 : ow (hc 9 d' 0 P) = 0
        · rw [if_pos q2, lt_df, nn_succ]
          refine go _ rfl (fun d2 h hq => ?_)
          rw [hs] at h
          obtain rfl := Option.some.inj h
          exact hq.2 q2
        · rw [if_neg q2]
          right
          obtain ⟨k1, k2⟩ := mvK_8 hP4 hp hkl
          refine ⟨_, rfl, Or.inr ⟨mvK p k, d', by omega, hNo, hs, ⟨q1, q2⟩, ?_⟩⟩
          rw [k1, kd_mv hP4 hp hkl]
      · rw [if_neg q1, lt_df, nn_succ]
        refine go _ rfl (fun d2 h hq => ?_)
        rw [hs] at h
        obtain rfl := Option.some.inj h
        exact q1 hq.1
  · right
    rw [if_pos (nleT (by omega) (by omega) (by omega))]
    have : k = P + 1 - p := by omega
    subst this
    exact ⟨_, rfl, Or.inl ⟨rfl, hNo.all hP4 hp⟩⟩
theorem m_findsMove {mp mk : Int32} (hI : IV R P S) (hd : VD R P S d) :
    (NoM S P d far ow 32 ∧ f12_findsMove (SD P S d) far ow mp mk = some (0, SD P S d, mp, mk)) ∨ (∃ (m : Nat) (d' : Nat → Nat), m < 32 ∧ NoM S P d far ow m ∧ suc S P d m = some d' ∧ Qm P d far ow (hc 9 d' 0 P) ∧ f12_findsMove (SD P S d) far ow mp mk = some (1, SD P S d, nn (m / 8), nn (kd m))) := by
  have hP4 := hI.1.2.1
  have hI2 := IV_SD hI hd
  obtain ⟨a, e, h⟩ := iter_wfF (B := fun (z : (Nat → Int32) × Int32 × Int32 × Int32) => f12_findsMove_B7 (nn (hc 9 d 0 P)) far ow z.1 z.2.1 z.2.2.1 z.2.2.2) (s := (SD P S d, mp, mk, (0 : Int32))) (n := P)
    (I := fun m z => ∃ p, m + p = P ∧ z = (SD P S d, mp, mk, nn p) ∧ NoM S P d far ow (8 * p))
    (Po := fun a => (a = .inr (SD P S d, mp, mk) ∧ NoM S P d far ow 32) ∨ (∃ (m : Nat) (d' : Nat → Nat), m < 32 ∧ NoM S P d far ow m ∧ suc S P d m = some d' ∧ Qm P d far ow (hc 9 d' 0 P) ∧ a = .inl ((1 : Int32), SD P S d, nn (m / 8), nn (kd m))))
    ⟨0, rfl, rfl, fun m hm => absurd hm (Nat.not_lt_zero _)⟩ (by omega)
    (by
      rintro m _ ⟨p, hm, rfl, hNo⟩
      dsimp only
      unfold f12_findsMove_B7
      rw [hI2.1.2.2.2.1]
      by_cases hp : p < P
      · obtain ⟨a, e, h⟩ := m_finds19 (mp := mp) (mk := mk) hI hd hp hNo
        rw [if_neg (nle (by omega) (by omega) (by omega)), e]
        rcases h with ⟨rfl, h⟩ | ⟨m', d', k1, k2, k3, k4, rfl⟩
        · left
          rw [bndS3_r, lt_df, nn_succ]
          exact ⟨_, m - 1, rfl, by omega, p + 1, by omega, rfl, h⟩
        · right
          rw [bndS3_l]
          exact ⟨_, rfl, Or.inr ⟨m', d', k1, k2, k3, k4, rfl⟩⟩
      · right
        obtain rfl : p = P := by omega
        rw [if_pos (Int32.le_refl _)]
        exact ⟨_, rfl, Or.inl ⟨rfl, hNo.allT⟩⟩)
  unfold f12_findsMove
  rw [m_code hI hd, bnd1_s, e]
  rcases h with ⟨rfl, h⟩ | ⟨m', d', k1, k2, k3, k4, rfl⟩
  · rw [bndS3_r]; exact Or.inl ⟨h, rfl⟩
  · rw [bndS3_l]; exact Or.inr ⟨m', d', k1, k2, k3, k4, rfl⟩
/-- the places from which a goal at the told depth is come to by the fewest moves -/
def onW (S : Nat → Int32) (P : Nat) (set : Int32) (D : Nat) (L : List EN) : Nat → Nat → Prop
  | 0, j => ∃ e : EN, L[j]? = some e ∧ e.2.2.2 = D ∧ glF S set e.1 P = true
  | n + 1, j => ∃ e : EN, L[j]? = some e ∧ e.2.2.2 + (n + 1) = D ∧ ∃ (m : Nat) (d' : Nat → Nat) (k : Nat) (z : EN), m < 32 ∧ suc S P e.1 m = some d' ∧ L[k]? = some z ∧ cd9 P z = hc 9 d' 0 P ∧ z.2.2.2 = e.2.2.2 + 1 ∧ onW S P set D L n k
theorem SO.dep {T : Nat} (h : SO S P L T) : ∀ (k j : Nat) (x y : EN), j ≤ k → L[j]? = some x → L[k]? = some y → x.2.2.2 ≤ y.2.2.2 := by
  intro k
  induction k using Nat.strongRecOn with
  | _ k ih =>
    intro j x y hjk hx hy
    rcases Nat.eq_zero_or_pos j with rfl | hj
    · rw [h.1] at hx
      obtain rfl := Option.some.inj hx
      exact Nat.zero_le _
    · by_cases e : j = k
      · subst e
        rw [hx] at hy
        obtain rfl := Option.some.inj hy
        exact Nat.le_refl _
      · obtain ⟨-, a1, a2, px, a3, a4, -⟩ := h.2.1 j x hj hx
        obtain ⟨-, b1, b2, py, b3, b4, -⟩ := h.2.1 k y (by omega) hy
        have ht := h.2.2.1 j k x y hj (by omega) hx hy
        unfold tm at ht
        have := ih y.2.1 b1 x.2.1 px py (by omega) a3 b3
        omega
theorem GL.ix {j k : Nat} {x y : EN} (h : GL R P S L) (hx : L[j]? = some x) (hy : L[k]? = some y) (e : cd9 P x = cd9 P y) : j = k := by
  have hj := (List.getElem?_eq_some_iff.mp hx).1
  have hk := (List.getElem?_eq_some_iff.mp hy).1
  have h1 : (L.map (cd9 P))[j]? = some (cd9 P x) := by rw [List.getElem?_map, hx]; rfl
  have h2 : (L.map (cd9 P))[k]? = some (cd9 P x) := by rw [List.getElem?_map, hy, e]; rfl
  have hl : j < (L.map (cd9 P)).length := by rw [List.length_map]; exact hj
  exact (List.getElem?_inj hl h.1).mp (h1.trans h2.symm)
/-- what isOnWay says once the places from i on were looked at -/
def WayA (S : Nat → Int32) (P : Nat) (set : Int32) (D : Nat) (L : List EN) (i : Nat) (ow : Nat → Int32) : Prop := ∀ (j : Nat) (e : EN), L[j]? = some e → (j < i → ow (cd9 P e) = 0) ∧ (i ≤ j → (¬ ow (cd9 P e) = 0 ↔ e.2.2.2 ≤ D ∧ onW S P set D L (D - e.2.2.2) j))
theorem way_q {set : Int32} {D N m k : Nat} {e : EN} {d' : Nat → Nat} {queue : Nat → Int32} {queued : Int32} (hI : IV R P S) (hG : GL R P S L) (hA : RA P L far queue queued) (hS : SO S P L (32 * N)) (hD : ∀ x, x ∈ L → x.2.2.2 < 2147483647) (hN : L.length = N) (hW : WayA S P set D L k ow) (hi : L[i]? = some e) (hk : k ≤ i + 1) (hm : m < 32) (hs : suc S P e.1 m = some d') : Qm P e.1 far ow (hc 9 d' 0 P) ↔ ∃ (k : Nat) (z : EN), L[k]? = some z ∧ cd9 P z = hc 9 d' 0 P ∧ z.2.2.2 = e.2.2.2 + 1 ∧ e.2.2.2 + 1 ≤ D ∧ onW S P set D L (D - (e.2.2.2 + 1)) k := by
  have hil := (List.getElem?_eq_some_iff.mp hi).1
  obtain ⟨j, z, h1, h2, -⟩ := hS.2.2.2 i m e d' (by omega) hm hi hs
  have hfz : far (hc 9 d' 0 P) = nn z.2.2.2 := by rw [← h2]; exact (hA.2.1 j z h1).2
  have hfe : far (hc 9 e.1 0 P) = nn e.2.2.2 := (hA.2.1 i e hi).2
  have dz := hD z (List.mem_of_getElem? h1)
  have de := hD e (List.mem_of_getElem? hi)
  unfold Qm
  rw [hfz, hfe, nn_succ, nn_eq (by omega) (by omega), ← h2]
  constructor
  · rintro ⟨q1, q2⟩
    have hij : i < j := by
      refine Nat.lt_of_not_le (fun h => ?_)
      have := hS.dep i j z e h h1 hi
      omega
    have h3 := ((hW j z h1).2 (by omega)).mp q2
    rw [q1] at h3
    exact ⟨j, z, h1, rfl, q1, h3.1, h3.2⟩
  · rintro ⟨k2, z2, a1, a2, a3, a4, a5⟩
    have hk2 := hG.ix a1 h1 a2
    subst hk2
    rw [a1] at h1
    obtain rfl := Option.some.inj h1
    have hij : i < k2 := by
      refine Nat.lt_of_not_le (fun h => ?_)
      have := hS.dep i k2 z2 e h a1 hi
      omega
    refine ⟨a3, ((hW k2 z2 a1).2 (by omega)).mpr ?_⟩
    rw [a3]
    exact ⟨a4, a5⟩
end
