theorem iter_twoE {S T E F : Type} {B : S → Option (S ⊕ E)} {C : T → Option (T ⊕ F)} {I : Nat → S → T → Prop} {Po : E → F → Prop} (h : ∀ n s t, I n s t → (∃ s' t' m, B s = some (.inl s') ∧ C t = some (.inl t') ∧ m < n ∧ I m s' t') ∨ (∃ a, B s = some (.inr a) ∧ ∀ f, n < f → ∃ b, iter C f t = some b ∧ Po a b)) : ∀ fuel n s t, I n s t → n < fuel → ∃ a b, iter B fuel s = some a ∧ iter C fuel t = some b ∧ Po a b := by
  intro fuel
  induction fuel with
  | zero => intro n s t _ hf; omega
  | succ f ih =>
    intro n s t hI hf
    rcases h n s t hI with ⟨s', t', m, e1, e2, hm, hI'⟩ | ⟨a, e1, h2⟩
    · unfold iter; rw [e1, e2]; exact ih m s' t' hI' (by omega)
    · obtain ⟨b, e2, hb⟩ := h2 (f + 1) hf
      exact ⟨a, b, by unfold iter; rw [e1], e2, hb⟩
theorem iter_twoEF {S T E F : Type} {B : S → Option (S ⊕ E)} {C : T → Option (T ⊕ F)} {I : Nat → S → T → Prop} {Po : E → F → Prop} {n : Nat} {s : S} {t : T} (hI : I n s t) (hn : n < 1000000) (h : ∀ n s t, I n s t → (∃ s' t' m, B s = some (.inl s') ∧ C t = some (.inl t') ∧ m < n ∧ I m s' t') ∨ (∃ a, B s = some (.inr a) ∧ ∀ f, n < f → ∃ b, iter C f t = some b ∧ Po a b)) : ∃ a b, iter B FUEL s = some a ∧ iter C FUEL t = some b ∧ Po a b :=
  iter_twoE h FUEL n s t hI hn
theorem bndS0_l {Z R : Type} (q : Z) (g : Z → Option R) (f : Option R) : bndS0 (some (.inl q)) g f = g q := congrArg (fun x => x) (by unfold bndS0; exact Eq.refl _)
theorem bndS0_r {Z R : Type} (g : Z → Option R) (f : Option R) : bndS0 (some (.inr ())) g f = f := congrArg (fun x => x) (by unfold bndS0; exact Eq.refl _)
theorem bndS1_l {Z T0 R : Type} (q : Z) (g : Z → Option R) (f : T0 → Option R) : bndS1 (some (.inl q)) g f = g q := congrArg (fun x => x) (by unfold bndS1; exact Eq.refl _)
theorem bndS1_r {Z T0 R : Type} (a0 : T0) (g : Z → Option R) (f : T0 → Option R) : bndS1 (some (.inr (a0))) g f = f a0 := congrArg (fun x => x) (by unfold bndS1; exact Eq.refl _)
theorem bndS2_l {Z T0 T1 R : Type} (q : Z) (g : Z → Option R) (f : T0 → T1 → Option R) : bndS2 (some (.inl q)) g f = g q := congrArg (fun x => x) (by unfold bndS2; exact Eq.refl _)
theorem bndS2_r {Z T0 T1 R : Type} (a0 : T0) (a1 : T1) (g : Z → Option R) (f : T0 → T1 → Option R) : bndS2 (some (.inr (a0, a1))) g f = f a0 a1 := congrArg (fun x => x) (by unfold bndS2; exact Eq.refl _)
theorem bndS3_l {Z T0 T1 T2 R : Type} (q : Z) (g : Z → Option R) (f : T0 → T1 → T2 → Option R) : bndS3 (some (.inl q)) g f = g q := congrArg (fun x => x) (by unfold bndS3; exact Eq.refl _)
theorem bndS3_r {Z T0 T1 T2 R : Type} (a0 : T0) (a1 : T1) (a2 : T2) (g : Z → Option R) (f : T0 → T1 → T2 → Option R) : bndS3 (some (.inr (a0, a1, a2))) g f = f a0 a1 a2 := congrArg (fun x => x) (by unfold bndS3; exact Eq.refl _)
theorem bndS4_l {Z T0 T1 T2 T3 R : Type} (q : Z) (g : Z → Option R) (f : T0 → T1 → T2 → T3 → Option R) : bndS4 (some (.inl q)) g f = g q := congrArg (fun x => x) (by unfold bndS4; exact Eq.refl _)
theorem bndS4_r {Z T0 T1 T2 T3 R : Type} (a0 : T0) (a1 : T1) (a2 : T2) (a3 : T3) (g : Z → Option R) (f : T0 → T1 → T2 → T3 → Option R) : bndS4 (some (.inr (a0, a1, a2, a3))) g f = f a0 a1 a2 a3 := congrArg (fun x => x) (by unfold bndS4; exact Eq.refl _)
theorem bndS5_l {Z T0 T1 T2 T3 T4 R : Type} (q : Z) (g : Z → Option R) (f : T0 → T1 → T2 → T3 → T4 → Option R) : bndS5 (some (.inl q)) g f = g q := congrArg (fun x => x) (by unfold bndS5; exact Eq.refl _)
theorem bndS5_r {Z T0 T1 T2 T3 T4 R : Type} (a0 : T0) (a1 : T1) (a2 : T2) (a3 : T3) (a4 : T4) (g : Z → Option R) (f : T0 → T1 → T2 → T3 → T4 → Option R) : bndS5 (some (.inr (a0, a1, a2, a3, a4))) g f = f a0 a1 a2 a3 a4 := congrArg (fun x => x) (by unfold bndS5; exact Eq.refl _)
theorem bndS6_l {Z T0 T1 T2 T3 T4 T5 R : Type} (q : Z) (g : Z → Option R) (f : T0 → T1 → T2 → T3 → T4 → T5 → Option R) : bndS6 (some (.inl q)) g f = g q := congrArg (fun x => x) (by unfold bndS6; exact Eq.refl _)
theorem bndS6_r {Z T0 T1 T2 T3 T4 T5 R : Type} (a0 : T0) (a1 : T1) (a2 : T2) (a3 : T3) (a4 : T4) (a5 : T5) (g : Z → Option R) (f : T0 → T1 → T2 → T3 → T4 → T5 → Option R) : bndS6 (some (.inr (a0, a1, a2, a3, a4, a5))) g f = f a0 a1 a2 a3 a4 a5 := congrArg (fun x => x) (by unfold bndS6; exact Eq.refl _)
theorem bndS7_l {Z T0 T1 T2 T3 T4 T5 T6 R : Type} (q : Z) (g : Z → Option R) (f : T0 → T1 → T2 → T3 → T4 → T5 → T6 → Option R) : bndS7 (some (.inl q)) g f = g q := congrArg (fun x => x) (by unfold bndS7; exact Eq.refl _)
theorem bndS7_r {Z T0 T1 T2 T3 T4 T5 T6 R : Type} (a0 : T0) (a1 : T1) (a2 : T2) (a3 : T3) (a4 : T4) (a5 : T5) (a6 : T6) (g : Z → Option R) (f : T0 → T1 → T2 → T3 → T4 → T5 → T6 → Option R) : bndS7 (some (.inr (a0, a1, a2, a3, a4, a5, a6))) g f = f a0 a1 a2 a3 a4 a5 a6 := congrArg (fun x => x) (by unfold bndS7; exact Eq.refl _)
theorem bndS8_l {Z T0 T1 T2 T3 T4 T5 T6 T7 R : Type} (q : Z) (g : Z → Option R) (f : T0 → T1 → T2 → T3 → T4 → T5 → T6 → T7 → Option R) : bndS8 (some (.inl q)) g f = g q := congrArg (fun x => x) (by unfold bndS8; exact Eq.refl _)
theorem bndS8_r {Z T0 T1 T2 T3 T4 T5 T6 T7 R : Type} (a0 : T0) (a1 : T1) (a2 : T2) (a3 : T3) (a4 : T4) (a5 : T5) (a6 : T6) (a7 : T7) (g : Z → Option R) (f : T0 → T1 → T2 → T3 → T4 → T5 → T6 → T7 → Option R) : bndS8 (some (.inr (a0, a1, a2, a3, a4, a5, a6, a7))) g f = f a0 a1 a2 a3 a4 a5 a6 a7 := congrArg (fun x => x) (by unfold bndS8; exact Eq.refl _)
theorem bndS9_l {Z T0 T1 T2 T3 T4 T5 T6 T7 T8 R : Type} (q : Z) (g : Z → Option R) (f : T0 → T1 → T2 → T3 → T4 → T5 → T6 → T7 → T8 → Option R) : bndS9 (some (.inl q)) g f = g q := congrArg (fun x => x) (by unfold bndS9; exact Eq.refl _)
theorem bndS9_r {Z T0 T1 T2 T3 T4 T5 T6 T7 T8 R : Type} (a0 : T0) (a1 : T1) (a2 : T2) (a3 : T3) (a4 : T4) (a5 : T5) (a6 : T6) (a7 : T7) (a8 : T8) (g : Z → Option R) (f : T0 → T1 → T2 → T3 → T4 → T5 → T6 → T7 → T8 → Option R) : bndS9 (some (.inr (a0, a1, a2, a3, a4, a5, a6, a7, a8))) g f = f a0 a1 a2 a3 a4 a5 a6 a7 a8 := congrArg (fun x => x) (by unfold bndS9; exact Eq.refl _)
theorem bndS10_l {Z T0 T1 T2 T3 T4 T5 T6 T7 T8 T9 R : Type} (q : Z) (g : Z → Option R) (f : T0 → T1 → T2 → T3 → T4 → T5 → T6 → T7 → T8 → T9 → Option R) : bndS10 (some (.inl q)) g f = g q := congrArg (fun x => x) (by unfold bndS10; exact Eq.refl _)
theorem bndS10_r {Z T0 T1 T2 T3 T4 T5 T6 T7 T8 T9 R : Type} (a0 : T0) (a1 : T1) (a2 : T2) (a3 : T3) (a4 : T4) (a5 : T5) (a6 : T6) (a7 : T7) (a8 : T8) (a9 : T9) (g : Z → Option R) (f : T0 → T1 → T2 → T3 → T4 → T5 → T6 → T7 → T8 → T9 → Option R) : bndS10 (some (.inr (a0, a1, a2, a3, a4, a5, a6, a7, a8, a9))) g f = f a0 a1 a2 a3 a4 a5 a6 a7 a8 a9 := congrArg (fun x => x) (by unfold bndS10; exact Eq.refl _)
theorem bndS11_l {Z T0 T1 T2 T3 T4 T5 T6 T7 T8 T9 T10 R : Type} (q : Z) (g : Z → Option R) (f : T0 → T1 → T2 → T3 → T4 → T5 → T6 → T7 → T8 → T9 → T10 → Option R) : bndS11 (some (.inl q)) g f = g q := congrArg (fun x => x) (by unfold bndS11; exact Eq.refl _)
theorem bndS11_r {Z T0 T1 T2 T3 T4 T5 T6 T7 T8 T9 T10 R : Type} (a0 : T0) (a1 : T1) (a2 : T2) (a3 : T3) (a4 : T4) (a5 : T5) (a6 : T6) (a7 : T7) (a8 : T8) (a9 : T9) (a10 : T10) (g : Z → Option R) (f : T0 → T1 → T2 → T3 → T4 → T5 → T6 → T7 → T8 → T9 → T10 → Option R) : bndS11 (some (.inr (a0, a1, a2, a3, a4, a5, a6, a7, a8, a9, a10))) g f = f a0 a1 a2 a3 a4 a5 a6 a7 a8 a9 a10 := congrArg (fun x => x) (by unfold bndS11; exact Eq.refl _)
theorem bndS12_l {Z T0 T1 T2 T3 T4 T5 T6 T7 T8 T9 T10 T11 R : Type} (q : Z) (g : Z → Option R) (f : T0 → T1 → T2 → T3 → T4 → T5 → T6 → T7 → T8 → T9 → T10 → T11 → Option R) : bndS12 (some (.inl q)) g f = g q := congrArg (fun x => x) (by unfold bndS12; exact Eq.refl _)
theorem bndS12_r {Z T0 T1 T2 T3 T4 T5 T6 T7 T8 T9 T10 T11 R : Type} (a0 : T0) (a1 : T1) (a2 : T2) (a3 : T3) (a4 : T4) (a5 : T5) (a6 : T6) (a7 : T7) (a8 : T8) (a9 : T9) (a10 : T10) (a11 : T11) (g : Z → Option R) (f : T0 → T1 → T2 → T3 → T4 → T5 → T6 → T7 → T8 → T9 → T10 → T11 → Option R) : bndS12 (some (.inr (a0, a1, a2, a3, a4, a5, a6, a7, a8, a9, a10, a11))) g f = f a0 a1 a2 a3 a4 a5 a6 a7 a8 a9 a10 a11 := congrArg (fun x => x) (by unfold bndS12; exact Eq.refl _)
theorem bndS13_l {Z T0 T1 T2 T3 T4 T5 T6 T7 T8 T9 T10 T11 T12 R : Type} (q : Z) (g : Z → Option R) (f : T0 → T1 → T2 → T3 → T4 → T5 → T6 → T7 → T8 → T9 → T10 → T11 → T12 → Option R) : bndS13 (some (.inl q)) g f = g q := congrArg (fun x => x) (by unfold bndS13; exact Eq.refl _)
theorem bndS13_r {Z T0 T1 T2 T3 T4 T5 T6 T7 T8 T9 T10 T11 T12 R : Type} (a0 : T0) (a1 : T1) (a2 : T2) (a3 : T3) (a4 : T4) (a5 : T5) (a6 : T6) (a7 : T7) (a8 : T8) (a9 : T9) (a10 : T10) (a11 : T11) (a12 : T12) (g : Z → Option R) (f : T0 → T1 → T2 → T3 → T4 → T5 → T6 → T7 → T8 → T9 → T10 → T11 → T12 → Option R) : bndS13 (some (.inr (a0, a1, a2, a3, a4, a5, a6, a7, a8, a9, a10, a11, a12))) g f = f a0 a1 a2 a3 a4 a5 a6 a7 a8 a9 a10 a11 a12 := congrArg (fun x => x) (by unfold bndS13; exact Eq.refl _)
theorem bndS14_l {Z T0 T1 T2 T3 T4 T5 T6 T7 T8 T9 T10 T11 T12 T13 R : Type} (q : Z) (g : Z → Option R) (f : T0 → T1 → T2 → T3 → T4 → T5 → T6 → T7 → T8 → T9 → T10 → T11 → T12 → T13 → Option R) : bndS14 (some (.inl q)) g f = g q := congrArg (fun x => x) (by unfold bndS14; exact Eq.refl _)
theorem bndS14_r {Z T0 T1 T2 T3 T4 T5 T6 T7 T8 T9 T10 T11 T12 T13 R : Type} (a0 : T0) (a1 : T1) (a2 : T2) (a3 : T3) (a4 : T4) (a5 : T5) (a6 : T6) (a7 : T7) (a8 : T8) (a9 : T9) (a10 : T10) (a11 : T11) (a12 : T12) (a13 : T13) (g : Z → Option R) (f : T0 → T1 → T2 → T3 → T4 → T5 → T6 → T7 → T8 → T9 → T10 → T11 → T12 → T13 → Option R) : bndS14 (some (.inr (a0, a1, a2, a3, a4, a5, a6, a7, a8, a9, a10, a11, a12, a13))) g f = f a0 a1 a2 a3 a4 a5 a6 a7 a8 a9 a10 a11 a12 a13 := congrArg (fun x => x) (by unfold bndS14; exact Eq.refl _)
theorem bndS15_l {Z T0 T1 T2 T3 T4 T5 T6 T7 T8 T9 T10 T11 T12 T13 T14 R : Type} (q : Z) (g : Z → Option R) (f : T0 → T1 → T2 → T3 → T4 → T5 → T6 → T7 → T8 → T9 → T10 → T11 → T12 → T13 → T14 → Option R) : bndS15 (some (.inl q)) g f = g q := congrArg (fun x => x) (by unfold bndS15; exact Eq.refl _)
theorem bndS15_r {Z T0 T1 T2 T3 T4 T5 T6 T7 T8 T9 T10 T11 T12 T13 T14 R : Type} (a0 : T0) (a1 : T1) (a2 : T2) (a3 : T3) (a4 : T4) (a5 : T5) (a6 : T6) (a7 : T7) (a8 : T8) (a9 : T9) (a10 : T10) (a11 : T11) (a12 : T12) (a13 : T13) (a14 : T14) (g : Z → Option R) (f : T0 → T1 → T2 → T3 → T4 → T5 → T6 → T7 → T8 → T9 → T10 → T11 → T12 → T13 → T14 → Option R) : bndS15 (some (.inr (a0, a1, a2, a3, a4, a5, a6, a7, a8, a9, a10, a11, a12, a13, a14))) g f = f a0 a1 a2 a3 a4 a5 a6 a7 a8 a9 a10 a11 a12 a13 a14 := congrArg (fun x => x) (by unfold bndS15; exact Eq.refl _)
theorem bndS16_l {Z T0 T1 T2 T3 T4 T5 T6 T7 T8 T9 T10 T11 T12 T13 T14 T15 R : Type} (q : Z) (g : Z → Option R) (f : T0 → T1 → T2 → T3 → T4 → T5 → T6 → T7 → T8 → T9 → T10 → T11 → T12 → T13 → T14 → T15 → Option R) : bndS16 (some (.inl q)) g f = g q := congrArg (fun x => x) (by unfold bndS16; exact Eq.refl _)
theorem bndS16_r {Z T0 T1 T2 T3 T4 T5 T6 T7 T8 T9 T10 T11 T12 T13 T14 T15 R : Type} (a0 : T0) (a1 : T1) (a2 : T2) (a3 : T3) (a4 : T4) (a5 : T5) (a6 : T6) (a7 : T7) (a8 : T8) (a9 : T9) (a10 : T10) (a11 : T11) (a12 : T12) (a13 : T13) (a14 : T14) (a15 : T15) (g : Z → Option R) (f : T0 → T1 → T2 → T3 → T4 → T5 → T6 → T7 → T8 → T9 → T10 → T11 → T12 → T13 → T14 → T15 → Option R) : bndS16 (some (.inr (a0, a1, a2, a3, a4, a5, a6, a7, a8, a9, a10, a11, a12, a13, a14, a15))) g f = f a0 a1 a2 a3 a4 a5 a6 a7 a8 a9 a10 a11 a12 a13 a14 a15 := congrArg (fun x => x) (by unfold bndS16; exact Eq.refl _)
theorem bnd16_s {T0 T1 T2 T3 T4 T5 T6 T7 T8 T9 T10 T11 T12 T13 T14 T15 R : Type} (a0 : T0) (a1 : T1) (a2 : T2) (a3 : T3) (a4 : T4) (a5 : T5) (a6 : T6) (a7 : T7) (a8 : T8) (a9 : T9) (a10 : T10) (a11 : T11) (a12 : T12) (a13 : T13) (a14 : T14) (a15 : T15) (f : T0 → T1 → T2 → T3 → T4 → T5 → T6 → T7 → T8 → T9 → T10 → T11 → T12 → T13 → T14 → T15 → Option R) : bnd16 (some (a0, a1, a2, a3, a4, a5, a6, a7, a8, a9, a10, a11, a12, a13, a14, a15)) f = f a0 a1 a2 a3 a4 a5 a6 a7 a8 a9 a10 a11 a12 a13 a14 a15 := congrArg (fun x => x) (by unfold bnd16; exact Eq.refl _)
theorem bndS17_l {Z T0 T1 T2 T3 T4 T5 T6 T7 T8 T9 T10 T11 T12 T13 T14 T15 T16 R : Type} (q : Z) (g : Z → Option R) (f : T0 → T1 → T2 → T3 → T4 → T5 → T6 → T7 → T8 → T9 → T10 → T11 → T12 → T13 → T14 → T15 → T16 → Option R) : bndS17 (some (.inl q)) g f = g q := congrArg (fun x => x) (by unfold bndS17; exact Eq.refl _)
theorem bndS17_r {Z T0 T1 T2 T3 T4 T5 T6 T7 T8 T9 T10 T11 T12 T13 T14 T15 T16 R : Type} (a0 : T0) (a1 : T1) (a2 : T2) (a3 : T3) (a4 : T4) (a5 : T5) (a6 : T6) (a7 : T7) (a8 : T8) (a9 : T9) (a10 : T10) (a11 : T11) (a12 : T12) (a13 : T13) (a14 : T14) (a15 : T15) (a16 : T16) (g : Z → Option R) (f : T0 → T1 → T2 → T3 → T4 → T5 → T6 → T7 → T8 → T9 → T10 → T11 → T12 → T13 → T14 → T15 → T16 → Option R) : bndS17 (some (.inr (a0, a1, a2, a3, a4, a5, a6, a7, a8, a9, a10, a11, a12, a13, a14, a15, a16))) g f = f a0 a1 a2 a3 a4 a5 a6 a7 a8 a9 a10 a11 a12 a13 a14 a15 a16 := congrArg (fun x => x) (by unfold bndS17; exact Eq.refl _)
theorem bnd17_s {T0 T1 T2 T3 T4 T5 T6 T7 T8 T9 T10 T11 T12 T13 T14 T15 T16 R : Type} (a0 : T0) (a1 : T1) (a2 : T2) (a3 : T3) (a4 : T4) (a5 : T5) (a6 : T6) (a7 : T7) (a8 : T8) (a9 : T9) (a10 : T10) (a11 : T11) (a12 : T12) (a13 : T13) (a14 : T14) (a15 : T15) (a16 : T16) (f : T0 → T1 → T2 → T3 → T4 → T5 → T6 → T7 → T8 → T9 → T10 → T11 → T12 → T13 → T14 → T15 → T16 → Option R) : bnd17 (some (a0, a1, a2, a3, a4, a5, a6, a7, a8, a9, a10, a11, a12, a13, a14, a15, a16)) f = f a0 a1 a2 a3 a4 a5 a6 a7 a8 a9 a10 a11 a12 a13 a14 a15 a16 := congrArg (fun x => x) (by unfold bnd17; exact Eq.refl _)
theorem bndS18_l {Z T0 T1 T2 T3 T4 T5 T6 T7 T8 T9 T10 T11 T12 T13 T14 T15 T16 T17 R : Type} (q : Z) (g : Z → Option R) (f : T0 → T1 → T2 → T3 → T4 → T5 → T6 → T7 → T8 → T9 → T10 → T11 → T12 → T13 → T14 → T15 → T16 → T17 → Option R) : bndS18 (some (.inl q)) g f = g q := congrArg (fun x => x) (by unfold bndS18; exact Eq.refl _)
theorem bndS18_r {Z T0 T1 T2 T3 T4 T5 T6 T7 T8 T9 T10 T11 T12 T13 T14 T15 T16 T17 R : Type} (a0 : T0) (a1 : T1) (a2 : T2) (a3 : T3) (a4 : T4) (a5 : T5) (a6 : T6) (a7 : T7) (a8 : T8) (a9 : T9) (a10 : T10) (a11 : T11) (a12 : T12) (a13 : T13) (a14 : T14) (a15 : T15) (a16 : T16) (a17 : T17) (g : Z → Option R) (f : T0 → T1 → T2 → T3 → T4 → T5 → T6 → T7 → T8 → T9 → T10 → T11 → T12 → T13 → T14 → T15 → T16 → T17 → Option R) : bndS18 (some (.inr (a0, a1, a2, a3, a4, a5, a6, a7, a8, a9, a10, a11, a12, a13, a14, a15, a16, a17))) g f = f a0 a1 a2 a3 a4 a5 a6 a7 a8 a9 a10 a11 a12 a13 a14 a15 a16 a17 := congrArg (fun x => x) (by unfold bndS18; exact Eq.refl _)
theorem bnd18_s {T0 T1 T2 T3 T4 T5 T6 T7 T8 T9 T10 T11 T12 T13 T14 T15 T16 T17 R : Type} (a0 : T0) (a1 : T1) (a2 : T2) (a3 : T3) (a4 : T4) (a5 : T5) (a6 : T6) (a7 : T7) (a8 : T8) (a9 : T9) (a10 : T10) (a11 : T11) (a12 : T12) (a13 : T13) (a14 : T14) (a15 : T15) (a16 : T16) (a17 : T17) (f : T0 → T1 → T2 → T3 → T4 → T5 → T6 → T7 → T8 → T9 → T10 → T11 → T12 → T13 → T14 → T15 → T16 → T17 → Option R) : bnd18 (some (a0, a1, a2, a3, a4, a5, a6, a7, a8, a9, a10, a11, a12, a13, a14, a15, a16, a17)) f = f a0 a1 a2 a3 a4 a5 a6 a7 a8 a9 a10 a11 a12 a13 a14 a15 a16 a17 := congrArg (fun x => x) (by unfold bnd18; exact Eq.refl _)
theorem bndS19_l {Z T0 T1 T2 T3 T4 T5 T6 T7 T8 T9 T10 T11 T12 T13 T14 T15 T16 T17 T18 R : Type} (q : Z) (g : Z → Option R) (f : T0 → T1 → T2 → T3 → T4 → T5 → T6 → T7 → T8 → T9 → T10 → T11 → T12 → T13 → T14 → T15 → T16 → T17 → T18 → Option R) : bndS19 (some (.inl q)) g f = g q := congrArg (fun x => x) (by unfold bndS19; exact Eq.refl _)
theorem bndS19_r {Z T0 T1 T2 T3 T4 T5 T6 T7 T8 T9 T10 T11 T12 T13 T14 T15 T16 T17 T18 R : Type} (a0 : T0) (a1 : T1) (a2 : T2) (a3 : T3) (a4 : T4) (a5 : T5) (a6 : T6) (a7 : T7) (a8 : T8) (a9 : T9) (a10 : T10) (a11 : T11) (a12 : T12) (a13 : T13) (a14 : T14) (a15 : T15) (a16 : T16) (a17 : T17) (a18 : T18) (g : Z → Option R) (f : T0 → T1 → T2 → T3 → T4 → T5 → T6 → T7 → T8 → T9 → T10 → T11 → T12 → T13 → T14 → T15 → T16 → T17 → T18 → Option R) : bndS19 (some (.inr (a0, a1, a2, a3, a4, a5, a6, a7, a8, a9, a10, a11, a12, a13, a14, a15, a16, a17, a18))) g f = f a0 a1 a2 a3 a4 a5 a6 a7 a8 a9 a10 a11 a12 a13 a14 a15 a16 a17 a18 := congrArg (fun x => x) (by unfold bndS19; exact Eq.refl _)
theorem bnd19_s {T0 T1 T2 T3 T4 T5 T6 T7 T8 T9 T10 T11 T12 T13 T14 T15 T16 T17 T18 R : Type} (a0 : T0) (a1 : T1) (a2 : T2) (a3 : T3) (a4 : T4) (a5 : T5) (a6 : T6) (a7 : T7) (a8 : T8) (a9 : T9) (a10 : T10) (a11 : T11) (a12 : T12) (a13 : T13) (a14 : T14) (a15 : T15) (a16 : T16) (a17 : T17) (a18 : T18) (f : T0 → T1 → T2 → T3 → T4 → T5 → T6 → T7 → T8 → T9 → T10 → T11 → T12 → T13 → T14 → T15 → T16 → T17 → T18 → Option R) : bnd19 (some (a0, a1, a2, a3, a4, a5, a6, a7, a8, a9, a10, a11, a12, a13, a14, a15, a16, a17, a18)) f = f a0 a1 a2 a3 a4 a5 a6 a7 a8 a9 a10 a11 a12 a13 a14 a15 a16 a17 a18 := congrArg (fun x => x) (by unfold bnd19; exact Eq.refl _)
section
variable {S : Nat → Int32} {R P : Nat} {hour broken rungs people : Int32} {rung grip want slips worn room strength weight told : Nat → Int32}
variable {hb th tb o_brokenRung o_brokenHour o_mendedRung o_mendedHour : Int32} {wl de tr tg tw ts tk : Nat → Int32} {wo : Nat → Int64}
variable {nc ns nt : Nat} {code sumEnd testEnd : Nat → Int32} {stack : Nat → Int64} {top : Int32}
variable {sign clause clauses : Nat → Int32} {force : Int32} {st wd : Nat → Int64} {tp bk bh : Int32} {wil mov : Nat → Int32}

theorem r_repair {r : Nat} (hI : IV R P S) (hW : RWd S hour broken rung grip want slips worn) (hr : r < R) : ∃ b' worn' S', f10_repair broken worn (nn r) = some (b', worn') ∧ f12_mends S (nn r) = some S' ∧ RWd S' hour b' rung grip want slips worn' ∧ IV R P S' ∧ St S S' ∧ worn' r = S' (12 + 4 * r) := by
  have hR9 := hI.1.1
  have hc9 : (nn r < 0 ∨ 9 ≤ r) = False := eq_false (ng (by omega) (by omega))
  have h2F : ((10 : Int32) + (4 : Int32) * nn r + (2 : Int32) < 0 ∨ 110 ≤ 12 + 4 * r) = False := eq_false (ix_r2 (by omega)).2
  have h3F : ((10 : Int32) + (4 : Int32) * nn r + (3 : Int32) < 0 ∨ 110 ≤ 13 + 4 * r) = False := eq_false (ix_r3 (by omega)).2
  have hW1 := hW.u_worn (r := r) (by omega) (worn r / 2)
  have hW2 := hW1.flag (r := r) (v := 0) (by omega) (hW1.2.1.mend (by omega))
  refine ⟨_, upd worn r (worn r / 2), upd (upd S (12 + 4 * r) (worn r / 2)) (13 + 4 * r) 0, ?_, ?_, hW2, ⟨(hI.1.u_cell (by omega)).flag hr (Or.inl rfl), fun q hq => ?_, fun q hq => (hI.2.2 q hq).of (by rw [upd_ne (by omega), upd_ne (by omega)]) (by rw [upd_ne (by omega), upd_ne (by omega)])⟩, (St.u_cell (by omega)).tr (St.u_cell (by omega)), ?_⟩
  · unfold f10_repair
    rw [nn_nat (by omega)]
    simp only [hc9, if_false, lt_df]
  · unfold f12_mends
    rw [lt_df, (ix_r2 (by omega)).1, (ix_r3 (by omega)).1]
    simp only [h2F, h3F, if_false, lt_df]
    rw [hW.2.2.2.2.2.2 r (by omega)]
  · rcases hI.2.1 q hq with h | ⟨r', hr', h1, h2⟩
    · exact Or.inl (by rw [upd_ne (by omega), upd_ne (by omega)]; exact h)
    · refine Or.inr ⟨r', hr', by rw [upd_ne (by omega), upd_ne (by omega)]; exact h1, ?_⟩
      by_cases e : r' = r
      · subst e; exact upd_at
      · rw [upd_ne (by omega), upd_ne (by omega)]; exact h2
  · rw [upd_at, upd_ne (by omega), upd_at]

theorem r_after_n {n : Nat} (hn : n < 1000) (hI : IV R P S) (hW : RWd S hour broken rung grip want slips worn) (hL : RLd R P S rungs people room strength weight told) (hf : force < 0) : ∃ hb1 wl1 de1 h1 b1 rg1 gr1 wt1 sl1 wn1 st1 tp1 wd1 S1 wi1 mo1 br1, f3_after_n hb wl de th tb tr tg tw ts tk hour broken rung grip want slips worn rungs people room strength weight told (nn n) = some (hb1, wl1, de1, h1, b1, rg1, gr1, wt1, sl1, wn1) ∧ iter (fun (z : (Nat → Int64) × Int32 × (Nat → Int64) × (Nat → Int32) × (Nat → Int32) × (Nat → Int32) × Int32 × Int32) => f12_ahead_B42 (nn n) sign clause clauses force z.1 z.2.1 z.2.2.1 z.2.2.2.1 z.2.2.2.2.1 z.2.2.2.2.2.1 z.2.2.2.2.2.2.1 z.2.2.2.2.2.2.2) FUEL (st, tp, wd, S, wil, mov, bk, (0 : Int32)) = some (st1, tp1, wd1, S1, wi1, mo1, br1) ∧ RWd S1 h1 b1 rg1 gr1 wt1 sl1 wn1 ∧ IV R P S1 ∧ St S S1 := by
  have hR9 := hI.1.1
  unfold f3_after_n
  rw [c_copyFrom, bnd7_s]
  have key := iter_twoF (B := (fun (z : Int32 × (Nat → Int32) × (Nat → Int32) × Int32 × Int32 × (Nat → Int32) × (Nat → Int32) × (Nat → Int32) × (Nat → Int32) × Int32) => f3_after_n_B11 (nn n) (va_cpy want tw 0 0 4) rungs people room strength weight told z.1 z.2.1 z.2.2.1 z.2.2.2.1 z.2.2.2.2.1 z.2.2.2.2.2.1 z.2.2.2.2.2.2.1 z.2.2.2.2.2.2.2.1 z.2.2.2.2.2.2.2.2.1 z.2.2.2.2.2.2.2.2.2)) (C := (fun (z : (Nat → Int64) × Int32 × (Nat → Int64) × (Nat → Int32) × (Nat → Int32) × (Nat → Int32) × Int32 × Int32) => f12_ahead_B42 (nn n) sign clause clauses force z.1 z.2.1 z.2.2.1 z.2.2.2.1 z.2.2.2.2.1 z.2.2.2.2.2.1 z.2.2.2.2.2.2.1 z.2.2.2.2.2.2.2)) (s := (hb, wl, de, hour, broken, (va_cpy rung tr 0 0 4), (va_cpy grip tg 0 0 4), (va_cpy slips ts 0 0 4), (va_cpy worn tk 0 0 9), (0 : Int32))) (t := (st, tp, wd, S, wil, mov, bk, (0 : Int32))) (n := n)
    (I := fun n9 a b => ∃ k, n9 + k = n ∧ a.2.2.2.2.2.2.2.2.2 = nn k ∧ b.2.2.2.2.2.2.2 = nn k ∧ RWd b.2.2.2.1 a.2.2.2.1 a.2.2.2.2.1 a.2.2.2.2.2.1 a.2.2.2.2.2.2.1 (va_cpy want tw 0 0 4) a.2.2.2.2.2.2.2.1 a.2.2.2.2.2.2.2.2.1 ∧ IV R P b.2.2.2.1 ∧ St S b.2.2.2.1)
    (Po := fun a b => RWd b.2.2.2.1 a.2.2.2.1 a.2.2.2.2.1 a.2.2.2.2.2.1 a.2.2.2.2.2.2.1 (va_cpy want tw 0 0 4) a.2.2.2.2.2.2.2.1 a.2.2.2.2.2.2.2.2 ∧ IV R P b.2.2.2.1 ∧ St S b.2.2.2.1)
    ⟨0, rfl, rfl, rfl, hW.copy, hI, St.rf⟩ (by omega)
    (by
      rintro n9 ⟨x0, x1, x2, hh, bb, rr, gg, ss, ww, i⟩ ⟨y0, y1, y2, T, y3, y4, y5, j⟩ ⟨k, hk, rfl, rfl, hWk, hIk, hSt⟩
      dsimp only at hWk hIk hSt ⊢
      unfold f3_after_n_B11 f12_ahead_B42
      by_cases hkn : n ≤ k
      · right
        rw [if_pos (nleT (by omega) (by omega) hkn), if_pos (nleT (by omega) (by omega) hkn)]
        exact ⟨_, _, rfl, rfl, hWk, hIk, hSt⟩
      · left
        obtain ⟨v2, br2, wl2, de2, b2, rg2, gr2, sl2, wn2, T2, wi2, mo2, e1, e2, hW2, hI2, hSt2, hbr2⟩ := r_spend_n (sign := sign) (clause := clause) (clauses := clauses) (hb0 := x0) (bk0 := y5) (tp := y1) (will0 := x1) (deed0 := x2) (wil0 := y3) (moved0 := y4) (st := y0) (wd := y2) hIk hWk (hL.st hSt hR9) hf
        rw [if_neg (nle (by omega) (by omega) hkn), if_neg (nle (by omega) (by omega) hkn), e1, bnd10_s, lt_df, nn_succ, e2, bnd8_s, lt_df]
        exact ⟨_, _, n9 - 1, rfl, rfl, by omega, k + 1, by omega, rfl, rfl, hW2, hI2, hSt.tr hSt2⟩)
  obtain ⟨⟨x0, x1, x2, hh, bb, rr, gg, ss, ww⟩, ⟨y0, y1, y2, T, y3, y4, y5⟩, e1, e2, h1, h2, h3⟩ := key
  rw [e1, bnd9_s]
  exact ⟨_, _, _, _, _, _, _, _, _, _, _, _, _, _, _, _, _,  rfl, e2, h1, h2, h3⟩
theorem r_after {n : Nat} (hn : n < 1000) (hI : IV R P S) (hW : RWd S hour broken rung grip want slips worn) (hL : RLd R P S rungs people room strength weight told) (hf : ¬ force < 0) (hE : REv nc code ns sumEnd nt testEnd sign clause clauses force) : ∃ hb1 wl1 de1 wo1 h1 b1 rg1 gr1 wt1 sl1 wn1 sk1 tq1 st1 tp1 wd1 S1 wi1 mo1 br1, f3_after hb wl de wo th tb tr tg tw ts tk hour broken rung grip want slips worn rungs people room strength weight told nc code ns sumEnd nt testEnd stack top (nn n) = some (hb1, wl1, de1, wo1, h1, b1, rg1, gr1, wt1, sl1, wn1, sk1, tq1) ∧ iter (fun (z : (Nat → Int64) × Int32 × (Nat → Int64) × (Nat → Int32) × (Nat → Int32) × (Nat → Int32) × Int32 × Int32) => f12_ahead_B42 (nn n) sign clause clauses force z.1 z.2.1 z.2.2.1 z.2.2.2.1 z.2.2.2.2.1 z.2.2.2.2.2.1 z.2.2.2.2.2.2.1 z.2.2.2.2.2.2.2) FUEL (st, tp, wd, S, wil, mov, bk, (0 : Int32)) = some (st1, tp1, wd1, S1, wi1, mo1, br1) ∧ RWd S1 h1 b1 rg1 gr1 wt1 sl1 wn1 ∧ IV R P S1 ∧ St S S1 := by
  have hR9 := hI.1.1
  unfold f3_after
  rw [c_copyFrom, bnd7_s]
  have key := iter_twoF (B := (fun (z : Int32 × (Nat → Int32) × (Nat → Int32) × (Nat → Int64) × Int32 × Int32 × (Nat → Int32) × (Nat → Int32) × (Nat → Int32) × (Nat → Int32) × (Nat → Int64) × Int32 × Int32) => f3_after_B11 (nn n) (va_cpy want tw 0 0 4) rungs people room strength weight told nc code ns sumEnd nt testEnd z.1 z.2.1 z.2.2.1 z.2.2.2.1 z.2.2.2.2.1 z.2.2.2.2.2.1 z.2.2.2.2.2.2.1 z.2.2.2.2.2.2.2.1 z.2.2.2.2.2.2.2.2.1 z.2.2.2.2.2.2.2.2.2.1 z.2.2.2.2.2.2.2.2.2.2.1 z.2.2.2.2.2.2.2.2.2.2.2.1 z.2.2.2.2.2.2.2.2.2.2.2.2)) (C := (fun (z : (Nat → Int64) × Int32 × (Nat → Int64) × (Nat → Int32) × (Nat → Int32) × (Nat → Int32) × Int32 × Int32) => f12_ahead_B42 (nn n) sign clause clauses force z.1 z.2.1 z.2.2.1 z.2.2.2.1 z.2.2.2.2.1 z.2.2.2.2.2.1 z.2.2.2.2.2.2.1 z.2.2.2.2.2.2.2)) (s := (hb, wl, de, wo, hour, broken, (va_cpy rung tr 0 0 4), (va_cpy grip tg 0 0 4), (va_cpy slips ts 0 0 4), (va_cpy worn tk 0 0 9), stack, top, (0 : Int32))) (t := (st, tp, wd, S, wil, mov, bk, (0 : Int32))) (n := n)
    (I := fun n9 a b => ∃ k, n9 + k = n ∧ a.2.2.2.2.2.2.2.2.2.2.2.2 = nn k ∧ b.2.2.2.2.2.2.2 = nn k ∧ RWd b.2.2.2.1 a.2.2.2.2.1 a.2.2.2.2.2.1 a.2.2.2.2.2.2.1 a.2.2.2.2.2.2.2.1 (va_cpy want tw 0 0 4) a.2.2.2.2.2.2.2.2.1 a.2.2.2.2.2.2.2.2.2.1 ∧ IV R P b.2.2.2.1 ∧ St S b.2.2.2.1)
    (Po := fun a b => RWd b.2.2.2.1 a.2.2.2.2.1 a.2.2.2.2.2.1 a.2.2.2.2.2.2.1 a.2.2.2.2.2.2.2.1 (va_cpy want tw 0 0 4) a.2.2.2.2.2.2.2.2.1 a.2.2.2.2.2.2.2.2.2.1 ∧ IV R P b.2.2.2.1 ∧ St S b.2.2.2.1)
    ⟨0, rfl, rfl, rfl, hW.copy, hI, St.rf⟩ (by omega)
    (by
      rintro n9 ⟨x0, x1, x2, x3, hh, bb, rr, gg, ss, ww, xs, xt, i⟩ ⟨y0, y1, y2, T, y3, y4, y5, j⟩ ⟨k, hk, rfl, rfl, hWk, hIk, hSt⟩
      dsimp only at hWk hIk hSt ⊢
      unfold f3_after_B11 f12_ahead_B42
      by_cases hkn : n ≤ k
      · right
        rw [if_pos (nleT (by omega) (by omega) hkn), if_pos (nleT (by omega) (by omega) hkn)]
        exact ⟨_, _, rfl, rfl, hWk, hIk, hSt⟩
      · left
        obtain ⟨v2, br2, wl2, de2, wo2, b2, rg2, gr2, sl2, wn2, sk2, tq2, st2, tp2, wd2, T2, wi2, mo2, e1, e2, hW2, hI2, hSt2, hbr2⟩ := r_spend  (hb0 := x0) (bk0 := y5) (tp := y1) (will0 := x1) (deed0 := x2) (wil0 := y3) (moved0 := y4) (st := y0) (wd := y2) (words := x3) (stack := xs) (top := xt) hIk hWk (hL.st hSt hR9) hf hE
        rw [if_neg (nle (by omega) (by omega) hkn), if_neg (nle (by omega) (by omega) hkn), e1, bnd13_s, lt_df, nn_succ, e2, bnd8_s, lt_df]
        exact ⟨_, _, n9 - 1, rfl, rfl, by omega, k + 1, by omega, rfl, rfl, hW2, hI2, hSt.tr hSt2⟩)
  obtain ⟨⟨x0, x1, x2, x3, hh, bb, rr, gg, ss, ww, xs, xt⟩, ⟨y0, y1, y2, T, y3, y4, y5⟩, e1, e2, h1, h2, h3⟩ := key
  rw [e1, bnd12_s]
  exact ⟨_, _, _, _, _, _, _, _, _, _, _, _, _, _, _, _, _, _, _, _,  rfl, e2, h1, h2, h3⟩
end
