/-! a ladder's text, whole -/
theorem iter_r {X E : Type} {B : X → Option (X ⊕ E)} {x : X} {e : E} (h : B x = some (.inr e)) (f : Nat) : iter B (f + 1) x = some e := by
  show (match B x with
    | none => none
    | some (.inl s') => iter B f s'
    | some (.inr e) => some e) = some e
  rw [h]
theorem iter_l {X E : Type} {B : X → Option (X ⊕ E)} {x y : X} (h : B x = some (.inl y)) (f : Nat) : iter B (f + 1) x = iter B f y := by
  show (match B x with
    | none => none
    | some (.inl s') => iter B f s'
    | some (.inr e) => some e) = iter B f y
  rw [h]
def MBl (tape : Nat → Int32) (tn tx : Int32) : (Nat → Int32) × (Nat → Int32) × (Nat → Int32) × (Nat → Int32) × (Nat → Int32) × Int32 × Int32 × Int32 × Int32 × Int32 × Int32 × (Nat → Int32) × Int32 × Int32 → Option (((Nat → Int32) × (Nat → Int32) × (Nat → Int32) × (Nat → Int32) × (Nat → Int32) × Int32 × Int32 × Int32 × Int32 × Int32 × Int32 × (Nat → Int32) × Int32 × Int32) ⊕ ((Nat → Int32) × (Nat → Int32) × (Nat → Int32) × (Nat → Int32) × (Nat → Int32) × Int32 × Int32 × Int32 × Int32 × Int32 × Int32 × (Nat → Int32) × Int32 × Int32)) := (fun (z : (Nat → Int32) × (Nat → Int32) × (Nat → Int32) × (Nat → Int32) × (Nat → Int32) × Int32 × Int32 × Int32 × Int32 × Int32 × Int32 × (Nat → Int32) × Int32 × Int32) => f12_readsAll_B35 tape tn tx z.1 z.2.1 z.2.2.1 z.2.2.2.1 z.2.2.2.2.1 z.2.2.2.2.2.1 z.2.2.2.2.2.2.1 z.2.2.2.2.2.2.2.1 z.2.2.2.2.2.2.2.2.1 z.2.2.2.2.2.2.2.2.2.1 z.2.2.2.2.2.2.2.2.2.2.1 z.2.2.2.2.2.2.2.2.2.2.2.1 z.2.2.2.2.2.2.2.2.2.2.2.2.1 z.2.2.2.2.2.2.2.2.2.2.2.2.2)
/-- the reference's clauses from one on -/
def clsF (tape : Nat → Int32) (tn tx : Int32) (f : Nat) (a0 a1 a2 a3 a4 : Nat → Int32) (a5 a6 a7 a8 a9 a10 : Int32) (a11 : Nat → Int32) (a12 : Int32) : Option ((Nat → Int32) × (Nat → Int32) × (Nat → Int32) × (Nat → Int32) × (Nat → Int32) × Int32 × Int32 × Int32 × Int32 × Int32 × Int32 × (Nat → Int32) × Int32 × Int32) :=
  bnd14 (f12_clauseHere tape tn a0 a1 a2 a3 a4 a5 a6 a7 tx a8 a9 a10 a11 a12) (fun r c0 c1 c2 c3 c4 c5 c6 c7 c8 c9 c10 c11 c12 => iter (MBl tape tn tx) f (c0, c1, c2, c3, c4, c5, c6, c7, c8, c9, c10, c11, c12, r))
section
variable {b : Nat → Nat} {bytes tape : Nat → Int32} {n i j s e : Nat} {tn tx : Int32}
variable {a0 a1 a2 a3 a4 a11 c0 c1 c2 c3 c4 c11 : Nat → Int32} {a5 a6 a7 a8 a9 a10 a12 c5 c6 c7 c8 c9 c10 c12 : Int32}
theorem cls_bad {f : Nat} (h : f12_clauseHere tape tn a0 a1 a2 a3 a4 a5 a6 a7 tx a8 a9 a10 a11 a12 = some (0, c0, c1, c2, c3, c4, c5, c6, c7, c8, c9, c10, c11, c12)) : clsF tape tn tx (f + 1) a0 a1 a2 a3 a4 a5 a6 a7 a8 a9 a10 a11 a12 = some (c0, c1, c2, c3, c4, c5, c6, c7, c8, c9, c10, c11, c12, 0) := by
  unfold clsF
  rw [h, bnd14_s]
  refine iter_r ?_ f
  unfold MBl f12_readsAll_B35
  rw [if_pos rfl]
theorem cls_end {f : Nat} {v nx : Int32} (h : f12_clauseHere tape tn a0 a1 a2 a3 a4 a5 a6 a7 tx a8 a9 a10 a11 a12 = some (1, c0, c1, c2, c3, c4, c5, c6, c7, c8, c9, c10, c11, c12)) (hs : f12_see tape tn c5 = some (v, nx)) (hv : ¬ v = 59) : clsF tape tn tx (f + 1) a0 a1 a2 a3 a4 a5 a6 a7 a8 a9 a10 a11 a12 = some (c0, c1, c2, c3, c4, nx, c6, c7, c8, c9, c10, c11, c12, 1) := by
  unfold clsF
  rw [h, bnd14_s]
  refine iter_r ?_ f
  unfold MBl f12_readsAll_B35
  dsimp only
  rw [if_neg (show ¬ (1 : Int32) = 0 by decide), hs, bnd2_s, if_neg hv]
theorem cls_on {f : Nat} {nx : Int32} {q : Option ((Nat → Int32) × (Nat → Int32) × (Nat → Int32) × (Nat → Int32) × (Nat → Int32) × Int32 × Int32 × Int32 × Int32 × Int32 × Int32 × (Nat → Int32) × Int32 × Int32)} (h : f12_clauseHere tape tn a0 a1 a2 a3 a4 a5 a6 a7 tx a8 a9 a10 a11 a12 = some (1, c0, c1, c2, c3, c4, c5, c6, c7, c8, c9, c10, c11, c12)) (hs : f12_see tape tn c5 = some (59, nx)) (hq : clsF tape tn tx f c0 c1 c2 c3 c4 (nx + 1) c6 c7 c8 c9 c10 c11 c12 = q) (hn : ∀ x, q = some x → True) (hne : q ≠ none) : clsF tape tn tx (f + 1) a0 a1 a2 a3 a4 a5 a6 a7 a8 a9 a10 a11 a12 = q := by
  unfold clsF at hq ⊢
  rw [h, bnd14_s]
  cases h2 : f12_clauseHere tape tn c0 c1 c2 c3 c4 (nx + 1) c6 c7 tx c8 c9 c10 c11 c12 with
  | none =>
    rw [h2] at hq
    exact absurd hq.symm (fun h => hne h)
  | some z =>
    obtain ⟨r, d0, d1, d2, d3, d4, d5, d6, d7, d8, d9, d10, d11, d12⟩ := z
    rw [h2, bnd14_s] at hq
    rw [← hq]
    refine iter_l ?_ f
    unfold MBl f12_readsAll_B35
    dsimp only
    rw [if_neg (show ¬ (1 : Int32) = 0 by decide), hs, bnd2_s, if_pos rfl, lt_df, h2, bnd14_s]
theorem bnd14_a {T0 T1 T2 T3 T4 T5 T6 T7 T8 T9 T10 T11 T12 T13 U0 U1 U2 U3 U4 U5 U6 U7 U8 U9 U10 U11 U12 U13 Q : Type} (x : Option (T0 × T1 × T2 × T3 × T4 × T5 × T6 × T7 × T8 × T9 × T10 × T11 × T12 × T13)) (f : T0 → T1 → T2 → T3 → T4 → T5 → T6 → T7 → T8 → T9 → T10 → T11 → T12 → T13 → Option (U0 × U1 × U2 × U3 × U4 × U5 × U6 × U7 × U8 × U9 × U10 × U11 × U12 × U13)) (g : U0 → U1 → U2 → U3 → U4 → U5 → U6 → U7 → U8 → U9 → U10 → U11 → U12 → U13 → Option Q) : bnd14 (bnd14 x f) g = bnd14 x (fun b0 b1 b2 b3 b4 b5 b6 b7 b8 b9 b10 b11 b12 b13 => bnd14 (f b0 b1 b2 b3 b4 b5 b6 b7 b8 b9 b10 b11 b12 b13) g) := by
  cases x with
  | none => rfl
  | some z =>
    obtain ⟨b0, b1, b2, b3, b4, b5, b6, b7, b8, b9, b10, b11, b12, b13⟩ := z
    rw [bnd14_s, bnd14_s]
/-- how the reference ends -/
theorem m_readsAll {k w : Nat} {nx nu ma li : Int32} {v : Int32} (hk : k < 7) (hx : TX b bytes tape n) (h : clsF tape (nn n) (nn k) FUEL a0 (upd a1 k 0) a2 a3 a4 0 0 a7 0 a9 0 a11 a12 = some (c0, c1, c2, c3, c4, c5, c6, c7, c8, c9, c10, c11, c12, v)) :
    (v = 0 → c6 = nn w → 0 < w → w < 5000 → f12_readsAll tape (nn n) a0 a1 a2 a3 a4 a5 a6 a7 (nn k) a8 a9 a10 a11 a12 = some (0, 0, c0, c1, c2, c3, c4, c5, nn w, c7, c8, c9, c10, c11, c12)) ∧
    (v = 1 → c6 = 0 → c5 = nn n → f12_readsAll tape (nn n) a0 a1 a2 a3 a4 a5 a6 a7 (nn k) a8 a9 a10 a11 a12 = some (1, 0, c0, c1, c2, c3, c4, c5, 0, c7, c8, c9, c10, c11, c12)) ∧
    (∀ s', v = 1 → c6 = 0 → s' < n → isSp (b s') = false → c5 = nn s' → f12_readsAll tape (nn n) a0 a1 a2 a3 a4 a5 a6 a7 (nn k) a8 a9 a10 a11 a12 = some (0, 0, c0, c1, c2, c3, c4, c5, nn (1 + 8 * s'), c7, c8, c9, c10, c11, c12)) := by
  have hn := hx.1
  have e : f12_readsAll tape (nn n) a0 a1 a2 a3 a4 a5 a6 a7 (nn k) a8 a9 a10 a11 a12 = (if v = 0 then (f12_readsAll_J88 (nn n) c0 c1 c2 c3 c4 c5 c6 c7 c8 c9 c10 c11 c12) else (bnd2 (f12_see tape (nn n) c5) (fun r_82 z_next_83 =>
      if r_82 = (-1 : Int32) then (f12_readsAll_J88 (nn n) c0 c1 c2 c3 c4 z_next_83 c6 c7 c8 c9 c10 c11 c12) else (bnd2 (f12_fails c6 (0 : Int32) z_next_83) (fun r_86 z_wrong_87 =>
      f12_readsAll_J88 (nn n) c0 c1 c2 c3 c4 z_next_83 z_wrong_87 c7 c8 c9 c10 c11 c12))))) := by
    unfold f12_readsAll
    rw [nn_nat (show k < 2147483648 by omega), if_neg (ng (by omega) (by omega)), lt_df, ← bnd14_a]
    have h' := h
    unfold clsF MBl at h'
    rw [h', bnd14_s]
  rw [e]
  refine ⟨fun hv hc h0 hw => ?_, fun hv hc h5 => ?_, fun s' hv hc hs' hsp h5 => ?_⟩
  · unfold f12_readsAll_J88
    rw [if_pos hv, hc, if_neg (nn0 (by omega) (by omega))]
  · have hsee := m_see hx (Rn.stay (c := isSp) (b := b) (Nat.le_refl n) (fun h => absurd h (Nat.lt_irrefl _)))
    rw [if_neg (Nat.lt_irrefl n)] at hsee
    unfold f12_readsAll_J88
    rw [if_neg (show ¬ v = 0 by rw [hv]; decide), h5, hsee, bnd2_s, if_pos rfl, hc, if_pos rfl]
  · have hsee := m_see hx (Rn.stay (c := isSp) (b := b) (Nat.le_of_lt hs') (fun _ => hsp))
    have hb := (hx.2 s' hs').1
    rw [if_pos hs'] at hsee
    unfold f12_readsAll_J88
    rw [if_neg (show ¬ v = 0 by rw [hv]; decide), h5, hsee, bnd2_s, if_neg (nn_ne_m1 (by omega)), hc, show f12_fails 0 0 (nn s') = _ from m_fails s' 0, bnd2_s, if_neg (nn0 (by omega) (by omega))]
    rfl
def CBl (bytes : Nat → Int32) (n : Nat) : Int32 × Int32 × Int32 × Int32 × Int32 × Int32 × Int32 × Int32 × (Nat → Int32) × (Nat → Int32) × (Nat → Int32) × (Nat → Int32) × (Nat → Int32) × (Nat → Int32) × Int32 → Option ((Int32 × Int32 × Int32 × Int32 × Int32 × Int32 × Int32 × Int32 × (Nat → Int32) × (Nat → Int32) × (Nat → Int32) × (Nat → Int32) × (Nat → Int32) × (Nat → Int32) × Int32) ⊕ ((Int32 × Int32 × Int32 × Int32 × Int32 × Int32 × Int32 × Int32 × Int32 × (Nat → Int32) × (Nat → Int32) × (Nat → Int32) × (Nat → Int32) × (Nat → Int32) × (Nat → Int32)) ⊕ (Int32 × Int32 × Int32 × Int32 × Int32 × Int32 × Int32 × Int32 × (Nat → Int32) × (Nat → Int32) × (Nat → Int32) × (Nat → Int32) × (Nat → Int32) × (Nat → Int32)))) := (fun (z : Int32 × Int32 × Int32 × Int32 × Int32 × Int32 × Int32 × Int32 × (Nat → Int32) × (Nat → Int32) × (Nat → Int32) × (Nat → Int32) × (Nat → Int32) × (Nat → Int32) × Int32) => f2_readInto_B9 bytes (nn n) z.1 z.2.1 z.2.2.1 z.2.2.2.1 z.2.2.2.2.1 z.2.2.2.2.2.1 z.2.2.2.2.2.2.1 z.2.2.2.2.2.2.2.1 z.2.2.2.2.2.2.2.2.1 z.2.2.2.2.2.2.2.2.2.1 z.2.2.2.2.2.2.2.2.2.2.1 z.2.2.2.2.2.2.2.2.2.2.2.1 z.2.2.2.2.2.2.2.2.2.2.2.2.1 z.2.2.2.2.2.2.2.2.2.2.2.2.2.1 z.2.2.2.2.2.2.2.2.2.2.2.2.2.2)
variable {R P bb : Nat} {rd : Nat → Int32} {room strength weight told srg swt : Nat → Int32}
theorem r_clauses {made deep opd : Int32} {sgn len cl cls opn : Nat → Int32} (hx : TX b bytes tape n) : ∀ (d m : Nat), m + d = 40 → ∀ (fc fr : Nat), d < fc → d < fr → ∀ (i s e R P bb : Nat) (kind sign num : Int32) (rd room strength weight told srg swt : Nat → Int32), (m = 0 ↔ R = 0) → Rn isSp b n i s → Tk b n s kind sign e → LdR R P bb rd (nn R) (nn P) (nn bb) room strength weight told srg swt →
    (∃ (k1 g1 st1 sp1 : Int32) (R1 P1 bb1 : Nat) (ro1 tr1 w1 t1 sr1 sw1 rd1 : Nat → Int32) (num1 li1 : Int32), iter (CBl bytes n) fc (kind, sign, (0 : Int32), nn s, nn e, nn R, nn P, nn bb, room, strength, weight, told, srg, swt, nn m) = some (.inl (1, k1, g1, 0, st1, sp1, nn R1, nn P1, nn bb1, ro1, tr1, w1, t1, sr1, sw1)) ∧ clsF tape (nn n) 6 fr sgn len cl cls rd (nn i) 0 num made deep (nn m) opn opd = some (sgn, len, cl, cls, rd1, nn n, 0, num1, made, deep, li1, opn, opd, 1) ∧ 0 < R1 ∧ LdR R1 P1 bb1 rd1 (nn R1) (nn P1) (nn bb1) ro1 tr1 w1 t1 sr1 sw1) ∨
    (∃ (w : Nat) (k1 g1 st1 sp1 ru1 pe1 sb1 : Int32) (ro1 tr1 w1 t1 sr1 sw1 rd1 : Nat → Int32) (nx wr num1 li1 v1 : Int32), 0 < w ∧ w < 5000 ∧ iter (CBl bytes n) fc (kind, sign, (0 : Int32), nn s, nn e, nn R, nn P, nn bb, room, strength, weight, told, srg, swt, nn m) = some (.inl (0, k1, g1, nn w, st1, sp1, ru1, pe1, sb1, ro1, tr1, w1, t1, sr1, sw1)) ∧ clsF tape (nn n) 6 fr sgn len cl cls rd (nn i) 0 num made deep (nn m) opn opd = some (sgn, len, cl, cls, rd1, nx, wr, num1, made, deep, li1, opn, opd, v1) ∧ ((v1 = 0 ∧ wr = nn w) ∨ (v1 = 1 ∧ wr = 0 ∧ ∃ s', s' < n ∧ isSp (b s') = false ∧ nx = nn s' ∧ w = 1 + 8 * s'))) := by
  have hn := hx.1
  intro d
  induction d with
  | zero =>
    intro m hm fc fr hfc hfr i s e R P bb kind sign num rd room strength weight told srg swt hmR h ht hL
    obtain ⟨fc, rfl⟩ : ∃ f, fc = f + 1 := ⟨fc - 1, by omega⟩
    obtain ⟨fr, rfl⟩ : ∃ f, fr = f + 1 := ⟨fr - 1, by omega⟩
    rcases r_clause (fault := 0) (num := num) (made := made) (deep := deep) (opd := opd) (tk0 := 0) (sgn := sgn) (len := len) (cl := cl) (cls := cls) (opn := opn) (m := m) (by omega) hmR hx h ht hL with ⟨s1, k1, g1, e1, i1, num1, rd1, R1, P1, bb1, ro1, st1, w1, t1, sr1, sw1, x0, x1, x2, x3, x4, x5, x6⟩ | ⟨w, k1, g1, st1, sp1, ru1, pe1, sb1, ro1, tr1, w1, t1, sr1, sw1, rd1, nx1, num1, li1, x1, x2, x3, x4⟩
    · omega
    · right
      refine ⟨w, k1, g1, st1, sp1, ru1, pe1, sb1, ro1, tr1, w1, t1, sr1, sw1, rd1, nx1, nn w, num1, li1, 0, x1, x2, iter_r ?_ fc, cls_bad x4, Or.inl ⟨rfl, rfl⟩⟩
      unfold CBl f2_readInto_B9
      dsimp only
      rw [if_neg (show ¬ (40 : Int32) < nn m from nlt (a := 40) (by decide) (by omega) (by omega)), x3, bnd15_s, if_pos rfl]
  | succ d ih =>
    intro m hm fc fr hfc hfr i s e R P bb kind sign num rd room strength weight told srg swt hmR h ht hL
    obtain ⟨fc, rfl⟩ : ∃ f, fc = f + 1 := ⟨fc - 1, by omega⟩
    obtain ⟨fr, rfl⟩ : ∃ f, fr = f + 1 := ⟨fr - 1, by omega⟩
    rcases r_clause (fault := 0) (num := num) (made := made) (deep := deep) (opd := opd) (tk0 := 0) (sgn := sgn) (len := len) (cl := cl) (cls := cls) (opn := opn) (m := m) (by omega) hmR hx h ht hL with ⟨s1, k1, g1, e1, i1, num1, rd1, R1, P1, bb1, ro1, st1, w1, t1, sr1, sw1, x0, x1, x2, x3, x4, x5, x6⟩ | ⟨w, k1, g1, st1, sp1, ru1, pe1, sb1, ro1, tr1, w1, t1, sr1, sw1, rd1, nx1, num1, li1, x1, x2, x3, x4⟩
    · have hsee := m_see hx x3
      have hb9 : ∀ (X : Option ((Int32 × Int32 × Int32 × Int32 × Int32 × Int32 × Int32 × Int32 × (Nat → Int32) × (Nat → Int32) × (Nat → Int32) × (Nat → Int32) × (Nat → Int32) × (Nat → Int32) × Int32) ⊕ ((Int32 × Int32 × Int32 × Int32 × Int32 × Int32 × Int32 × Int32 × Int32 × (Nat → Int32) × (Nat → Int32) × (Nat → Int32) × (Nat → Int32) × (Nat → Int32) × (Nat → Int32)) ⊕ (Int32 × Int32 × Int32 × Int32 × Int32 × Int32 × Int32 × Int32 × (Nat → Int32) × (Nat → Int32) × (Nat → Int32) × (Nat → Int32) × (Nat → Int32) × (Nat → Int32))))), (if k1 = 0 then some (.inr (.inl (1, k1, g1, 0, nn s1, nn e1, nn R1, nn P1, nn bb1, ro1, st1, w1, t1, sr1, sw1))) else (bnd1 (f9_isAt k1 g1 59) (fun r_41 =>
          if r_41 = 0 then (bnd2 (f9_refuse 0 (nn s1) 0) (fun r_50 f51 => if r_50 = 0 ∨ r_50 = 1 then some (.inr (.inl (r_50, k1, g1, f51, nn s1, nn e1, nn R1, nn P1, nn bb1, ro1, st1, w1, t1, sr1, sw1))) else none)) else (bnd4 (f9_advance bytes (nn n) k1 g1 (nn s1) (nn e1)) (fun k44 s45 s46 s47 =>
          lt (nn m + 1) (fun v2 => some (.inl (k44, s45, 0, s46, s47, nn R1, nn P1, nn bb1, ro1, st1, w1, t1, sr1, sw1, v2)))))))) = X → CBl bytes n (kind, sign, (0 : Int32), nn s, nn e, nn R, nn P, nn bb, room, strength, weight, told, srg, swt, nn m) = X := by
        intro X hX
        rw [← hX]
        unfold CBl f2_readInto_B9
        dsimp only
        rw [if_neg (show ¬ (40 : Int32) < nn m from nlt (a := 40) (by decide) (by omega) (by omega)), x1, bnd15_s, if_neg (show ¬ (1 : Int32) = 0 by decide)]
      rcases x4.isAt (c := 59) hx (by decide) (by decide) (by decide) (by decide) (by decide) with ⟨q1, q2, q3, q4⟩ | ⟨q1, q2⟩
      · have hk1 : ¬ k1 = 0 := by
          intro h0
          rw [h0] at q4
          unfold f9_isAt at q4
          rw [if_neg (show ¬ (0 : Int32) = 3 by decide)] at q4
          exact absurd (Option.some.inj q4) (by decide)
        obtain ⟨s2, k2, g2, e2, t1', t2, t3⟩ := next_tk (kind := k1) (sign := g1) (nn s1) hx x4.se.2.1
        rw [if_pos q1, q2] at hsee
        have hcb := hb9 _ rfl
        rw [if_neg hk1, show f9_isAt k1 g1 59 = some 1 from q4, bnd1_s, if_neg (show ¬ (1 : Int32) = 0 by decide), t2, bnd4_s, lt_df, nn_succ] at hcb
        have hi2 : e1 = s1 + 1 := q3
        have hm1 : (m + 1 = 0 ↔ R1 = 0) := ⟨fun h => by omega, fun h => by omega⟩
        have ih2 := ih (m + 1) (by omega) fc fr (by omega) (by omega) e1 s2 e2 R1 P1 bb1 k2 g2 num1 rd1 ro1 st1 w1 t1 sr1 sw1 hm1 t1' t3 x6
        rw [hi2, ← nn_succ s1] at ih2
        rcases ih2 with ⟨k3, g3, st3, sp3, R3, P3, bb3, ro3, tr3, w3, t3', sr3, sw3, rd3, num3, li3, y1, y2, y3, y4⟩ | ⟨w, k3, g3, st3, sp3, ru3, pe3, sb3, ro3, tr3, w3, t3', sr3, sw3, rd3, nx3, wr3, num3, li3, v3, y1, y2, y3, y4, y5⟩
        · left
          exact ⟨k3, g3, st3, sp3, R3, P3, bb3, ro3, tr3, w3, t3', sr3, sw3, rd3, num3, li3, (iter_l hcb fc).trans y1, cls_on x2 hsee y2 (fun _ _ => trivial) (by simp), y3, y4⟩
        · right
          exact ⟨w, k3, g3, st3, sp3, ru3, pe3, sb3, ro3, tr3, w3, t3', sr3, sw3, rd3, nx3, wr3, num3, li3, v3, y1, y2, (iter_l hcb fc).trans y3, cls_on x2 hsee y4 (fun _ _ => trivial) (by simp), y5⟩
      · rcases x4.2 with ⟨z1, z2, z3⟩ | ⟨z1, z2, z3, z4, z5⟩
        · left
          rw [if_neg (show ¬ s1 < n by omega)] at hsee
          have hcb := hb9 _ rfl
          rw [if_pos z3] at hcb
          refine ⟨k1, g1, nn s1, nn e1, R1, P1, bb1, ro1, st1, w1, t1, sr1, sw1, rd1, num1, nn (m + 1), iter_r hcb fc, ?_, x5, x6⟩
          rw [cls_end x2 hsee (by decide), z1]
        · right
          have hb := (hx.2 s1 z1).1
          have hk1 : ¬ k1 = 0 := by
            rcases z5 with ⟨-, h, -⟩ | ⟨-, h, -⟩ | ⟨-, -, h, -⟩ <;> rw [h] <;> decide
          rw [if_pos z1] at hsee
          have hcb := hb9 _ rfl
          rw [if_neg hk1, show f9_isAt k1 g1 59 = some 0 from q2, bnd1_s, if_pos rfl, show f9_refuse 0 (nn s1) 0 = _ from c_refuse 0 s1 0, bnd2_s, if_pos (Or.inl rfl)] at hcb
          exact ⟨1 + 8 * s1, _, _, _, _, _, _, _, _, _, _, _, _, _, _, _, _, _, _, 1, by omega, by omega, iter_r hcb fc, cls_end x2 hsee (nne (b := 59) (by omega) (by decide) (q1 z1)), Or.inr ⟨rfl, rfl, s1, z1, z2, rfl, rfl⟩⟩
    · right
      refine ⟨w, k1, g1, st1, sp1, ru1, pe1, sb1, ro1, tr1, w1, t1, sr1, sw1, rd1, nx1, nn w, num1, li1, 0, x1, x2, iter_r ?_ fc, cls_bad x4, Or.inl ⟨rfl, rfl⟩⟩
      unfold CBl f2_readInto_B9
      dsimp only
      rw [if_neg (show ¬ (40 : Int32) < nn m from nlt (a := 40) (by decide) (by omega) (by omega)), x3, bnd15_s, if_pos rfl]
end
