/-! rows of numbers laid over others -/
def ov (k : Nat) (f g : Nat → Int32) : Nat → Int32 := fun i => if i < k then f i else g i
theorem ov_0 {f g : Nat → Int32} : ov 0 f g = g := by funext i; unfold ov; rw [if_neg (by omega)]
theorem ov_upd {k : Nat} {f g : Nat → Int32} : upd (ov k f g) k (f k) = ov (k + 1) f g := by
  funext i
  unfold upd ov
  by_cases h : i = k
  · subst h; rw [if_pos rfl, if_pos (by omega)]
  · rw [if_neg h]
    by_cases h2 : i < k
    · rw [if_pos h2, if_pos (by omega)]
    · rw [if_neg h2, if_neg (by omega)]
theorem ov_back {k : Nat} {S T f : Nat → Int32} (h : ∀ i, k ≤ i → T i = S i) : ov k (ov k S f) T = S := by
  funext i
  unfold ov
  by_cases h2 : i < k
  · rw [if_pos h2, if_pos h2]
  · rw [if_neg h2]; exact h i (by omega)
theorem m_keeps {S f : Nat → Int32} : f12_keeps S f = some (ov 62 S f) := by
  unfold f12_keeps
  rw [iter_for (s := (f, (0 : Int32))) (st := fun k => (ov k S f, nn k)) (n := 62) (out := ov 62 S f) (by rw [ov_0]; rfl) (by decide) ?hs ?he]
  · rfl
  case hs =>
    intro k hk
    unfold f12_keeps_B2
    dsimp only
    rw [show (62 : Int32) = nn 62 from rfl, if_neg (nle (by omega) (by omega) (by omega)), nn_nat (by omega), if_neg (ng (by omega) (by omega)), lt_df, if_neg (ng (by omega) (by omega)), lt_df, lt_df, nn_succ, ov_upd]
  case he =>
    unfold f12_keeps_B2
    dsimp only
    rw [if_pos (by decide)]
theorem m_laysBack {T f : Nat → Int32} : f12_laysBack T f = some (ov 62 f T) := by
  unfold f12_laysBack
  rw [iter_for (s := (T, (0 : Int32))) (st := fun k => (ov k f T, nn k)) (n := 62) (out := ov 62 f T) (by rw [ov_0]; rfl) (by decide) ?hs ?he]
  · rfl
  case hs =>
    intro k hk
    unfold f12_laysBack_B2
    dsimp only
    rw [show (62 : Int32) = nn 62 from rfl, if_neg (nle (by omega) (by omega) (by omega)), nn_nat (by omega), if_neg (ng (by omega) (by omega)), lt_df, if_neg (ng (by omega) (by omega)), lt_df, lt_df, nn_succ, ov_upd]
  case he =>
    unfold f12_laysBack_B2
    dsimp only
    rw [if_pos (by decide)]
theorem cpy_at {f g : Nat → Int32} {n p : Nat} (h : p < n) : va_cpy f g 0 0 n p = f p := by
  unfold va_cpy
  rw [if_pos (by omega)]
  congr 1
  omega
theorem RWd.copy {S : Nat → Int32} {hour broken : Int32} {rung grip want slips worn r0 g0 w0 s0 k0 : Nat → Int32} (h : RWd S hour broken rung grip want slips worn) : RWd S hour broken (va_cpy rung r0 0 0 4) (va_cpy grip g0 0 0 4) (va_cpy want w0 0 0 4) (va_cpy slips s0 0 0 4) (va_cpy worn k0 0 0 9) := by
  obtain ⟨h1, h2, h3, h4, h5, h6, h7⟩ := h
  exact ⟨h1, h2, fun p hp => by rw [cpy_at hp]; exact h3 p hp, fun p hp => by rw [cpy_at hp]; exact h4 p hp, fun p hp => by rw [cpy_at hp]; exact h5 p hp, fun p hp => by rw [cpy_at hp]; exact h6 p hp, fun p hp => by rw [cpy_at hp]; exact h7 p hp⟩
theorem c_copyFrom {th tb hour broken : Int32} {tr tg tw ts tk rung grip want slips worn : Nat → Int32} : f10_copyFrom th tb tr tg tw ts tk hour broken rung grip want slips worn = some (hour, broken, va_cpy rung tr 0 0 4, va_cpy grip tg 0 0 4, va_cpy want tw 0 0 4, va_cpy slips ts 0 0 4, va_cpy worn tk 0 0 9) := rfl
