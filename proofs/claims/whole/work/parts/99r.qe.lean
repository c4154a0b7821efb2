/-! where the law begins: two new objects, as blocks -/
def tab {α : Type} (f g1 g2 g3 : Nat → α) (r m l d : α) : Nat → α := fun j => if j < 12 then f j else if j < 16 then g1 (j - 12) else if j < 20 then g2 (j - 16) else if j < 40 then g3 (j - 20) else if j < 46 then r else if j = 46 then m else if j = 47 then l else d
section
variable {α : Type} {f g1 g2 g3 : Nat → α} {r m l d : α}
theorem tab_f {j : Nat} (h : j < 12) : tab f g1 g2 g3 r m l d j = f j := if_pos h
theorem tab_1 {k : Nat} (h : k < 4) : tab f g1 g2 g3 r m l d (12 + k) = g1 k := by
  unfold tab
  rw [if_neg (by omega), if_pos (by omega), Nat.add_sub_cancel_left]
theorem tab_2 {k : Nat} (h : k < 4) : tab f g1 g2 g3 r m l d (16 + k) = g2 k := by
  unfold tab
  rw [if_neg (by omega), if_neg (by omega), if_pos (by omega), Nat.add_sub_cancel_left]
theorem tab_3 {k : Nat} (h : k < 20) : tab f g1 g2 g3 r m l d (20 + k) = g3 k := by
  unfold tab
  rw [if_neg (by omega), if_neg (by omega), if_neg (by omega), if_pos (by omega), Nat.add_sub_cancel_left]
theorem tab_r {j : Nat} (h : 40 ≤ j) (h2 : j < 46) : tab f g1 g2 g3 r m l d j = r := by
  unfold tab
  rw [if_neg (by omega), if_neg (by omega), if_neg (by omega), if_neg (by omega), if_pos (by omega)]
theorem tab_m : tab f g1 g2 g3 r m l d 46 = m := rfl
theorem tab_l : tab f g1 g2 g3 r m l d 47 = l := rfl
end
theorem bt00 : ∀ r, r < 9 → (0 : Int32) = bt 0 r := by decide
theorem iv00 : IV 0 0 (fun _ => (0 : Int32)) :=
  ⟨⟨by omega, by omega, rfl, rfl, fun r hr => Or.inl rfl, ⟨fun r _ _ => rfl, fun r _ _ => rfl, fun i _ _ => rfl⟩, fun p hp => absurd hp (Nat.not_lt_zero p), fun p hp => absurd hp (Nat.not_lt_zero p)⟩, fun p hp => absurd hp (Nat.not_lt_zero p), fun p hp => absurd hp (Nat.not_lt_zero p)⟩
set_option maxHeartbeats 16000000 in
set_option maxRecDepth 100000 in
theorem top_start {D : va_G} {s : State} {A : Nat → Prop} {H : Heap} {a0 am : Nat} {z13 z14 : Nat → Int32} {wz : va_W} {tz : List (ClassId × FieldType)} {Lm : List Nat} {ym : Nat → ClassId} (hZ : Z11 a0 z13 z14 wz tz) (hK : va_K D vwCl tz s) (hKm : va_K D vwCl (tM ym) s) (hP : va_P D vwCl (wz ++ cM (adOf am Lm) ym (fun _ => (0 : Int32)) (0 : Int32) (0 : Int32) (fun _ => (0 : Int32)) (fun _ => (0 : Int32)) (fun _ => (0 : Int32)) (fun _ => (0 : Int32)) (fun _ => (0 : Int32)) (0 : Int32) (0 : Int32) (0 : Int32) (0 : Int32) (0 : Int32) (0 : Int32) (0 : Int32) (fun _ => (0 : Int32)) (0 : Int32) (fun _ => (0 : Int64)) (0 : Int32) (fun _ => (0 : Int64)) (fun _ => (0 : Int32)) (-1 : Int32) (0 : Int32) (fun _ => (0 : Int32)) (fun _ => (0 : Int32)) (0 : Int32) (fun _ => (0 : Int32)) (0 : Int32) (fun _ => (0 : Int32)) (0 : Int32) (fun _ => (0 : Int32)) (fun _ => (0 : Int32)) (0 : Int32) (fun _ => (0 : Int32)) (0 : Int32) (0 : Int32) (fun _ => (0 : Int32)) (fun _ => (0 : Int32)) (0 : Int64) (fun _ => (0 : Int32)) (fun _ => (0 : Int32)) (fun _ => (0 : Int32)) (fun _ => (0 : Int32))) H) (hD : va_D A (wz ++ cM (adOf am Lm) ym (fun _ => (0 : Int32)) (0 : Int32) (0 : Int32) (fun _ => (0 : Int32)) (fun _ => (0 : Int32)) (fun _ => (0 : Int32)) (fun _ => (0 : Int32)) (fun _ => (0 : Int32)) (0 : Int32) (0 : Int32) (0 : Int32) (0 : Int32) (0 : Int32) (0 : Int32) (0 : Int32) (fun _ => (0 : Int32)) (0 : Int32) (fun _ => (0 : Int64)) (0 : Int32) (fun _ => (0 : Int64)) (fun _ => (0 : Int32)) (-1 : Int32) (0 : Int32) (fun _ => (0 : Int32)) (fun _ => (0 : Int32)) (0 : Int32) (fun _ => (0 : Int32)) (0 : Int32) (fun _ => (0 : Int32)) (0 : Int32) (fun _ => (0 : Int32)) (fun _ => (0 : Int32)) (0 : Int32) (fun _ => (0 : Int32)) (0 : Int32) (0 : Int32) (fun _ => (0 : Int32)) (fun _ => (0 : Int32)) (0 : Int64) (fun _ => (0 : Int32)) (fun _ => (0 : Int32)) (fun _ => (0 : Int32)) (fun _ => (0 : Int32)))) : ∃ (ad : Nat → Nat → Nat) (cy : Nat → Nat → ClassId) (ims pst : Nat → Option Nat) (bs : Nat → va_W), ad 0 0 = a0 ∧ ad 46 0 = am ∧ FK D s ad cy ims pst ∧ Top D s ad cy ims pst 48 bs ∧ va_P D vwCl (bW 48 bs) H ∧ va_D A (bW 48 bs) := by
  obtain ⟨R, T, q1, q2, q3, ql, qt, qlr, qrr, qn, qnw, qh, qw, qo, qp, qsw, qs, cR, cI, cP, im, pst, Ll, Lt, Llr, Lrr, Ln, Lnw, Lh, Low, Lo, Lp, Lsw, Ls, yl, yt, ylr, yrr, yn, ynw, yh, yow, yo, yp, ysw, ys, A1, C1, A2, C2, A3, C3, hw, ht, him, hps, hR, hT⟩ := hZ
  obtain ⟨ad, had⟩ : ∃ X : Nat → Nat → Nat, X = tab (fun j => match j with | 0 => adOf a0 [q1, q2, q3] | 1 => adOf qt Lt | 2 => adOf qlr Llr | 3 => adOf qrr Lrr | 4 => adOf qn Ln | 5 => adOf qnw Lnw | 6 => adOf qh Lh | 7 => adOf qo Lo | 8 => adOf qw Low | 9 => adOf qp Lp | 10 => adOf qs Ls | _ => adOf qsw Lsw) A1 A2 A3 (fun _ => 0) (adOf am Lm) (adOf ql Ll) (fun _ => 0) := ⟨_, rfl⟩
  obtain ⟨cy, hcy⟩ : ∃ X : Nat → Nat → ClassId, X = tab (fun j => match j with | 0 => cyOf [cR, cI, cP] | 1 => yt | 2 => ylr | 3 => yrr | 4 => yn | 5 => ynw | 6 => yh | 7 => yo | 8 => yow | 9 => yp | 10 => ys | _ => ysw) C1 C2 C3 yl ym yl yl := ⟨_, rfl⟩
  obtain ⟨bs, hbs⟩ : ∃ X : Nat → va_W, X = tab (fun j => match j with | 0 => cLL (adOf a0 [q1, q2, q3]) (cyOf [cR, cI, cP]) qt qlr qrr (fun _ => none) 0 qn im pst 0 0 qh qo qp qs | 1 => cTp (adOf qt Lt) yt (fun _ => (0 : Int32)) 0 0 0 0 0 0 | 2 => cLR (adOf qlr Llr) ylr qt | 3 => cRR (adOf qrr Lrr) yrr qt (fun _ => (0 : Int32)) (fun _ => (0 : Int32)) (fun _ => (0 : Int32)) 0 0 0 | 4 => cSt (adOf qn Ln) yn (adOf qnw Lnw 0) (-1) 0 0 (fun _ => (0 : Int32)) (fun _ => (0 : Int32)) (fun _ => (0 : Int32)) 0 | 5 => cW (adOf qnw Lnw) ynw ql 0 0 (fun _ => (0 : Int32)) (fun _ => (0 : Int32)) (fun _ => (0 : Int32)) (fun _ => (0 : Int32)) (fun _ => (0 : Int32)) | 6 => cH (adOf qh Lh) yh (-1) (fun _ => (0 : Int32)) (fun _ => (0 : Int32)) (fun _ => (0 : Int64)) | 7 => cO (adOf qo Lo) yo 0 0 0 0 0 0 0 0 0 0 0 qh qw (fun _ => (0 : Int32)) | 8 => kWo ql (adOf qw Low) yow | 9 => cPt qp (adOf qp Lp) yp qnw 0 0 (fun _ => (0 : Int32)) 0 (fun _ => (0 : Int32)) 0 0 0 (fun _ => (0 : Int32)) (fun _ => (0 : Int32)) (fun _ => (0 : Int32)) (fun _ => (0 : Int32)) (fun _ => (0 : Int32)) | 10 => cSg (adOf qs Ls) ys 0 qsw | _ => kWo ql (adOf qsw Lsw) ysw) (fun k => cSt (A1 k) (C1 k) (A2 k 0) (-1) 0 0 (fun _ => (0 : Int32)) (fun _ => (0 : Int32)) (fun _ => (0 : Int32)) 0) (fun k => cW (A2 k) (C2 k) ql 0 0 (fun _ => (0 : Int32)) (fun _ => (0 : Int32)) (fun _ => (0 : Int32)) (fun _ => (0 : Int32)) (fun _ => (0 : Int32))) (fun k => kWo ql (A3 k) (C3 k)) [] (cM (adOf am Lm) ym (fun _ => (0 : Int32)) (0 : Int32) (0 : Int32) (fun _ => (0 : Int32)) (fun _ => (0 : Int32)) (fun _ => (0 : Int32)) (fun _ => (0 : Int32)) (fun _ => (0 : Int32)) (0 : Int32) (0 : Int32) (0 : Int32) (0 : Int32) (0 : Int32) (0 : Int32) (0 : Int32) (fun _ => (0 : Int32)) (0 : Int32) (fun _ => (0 : Int64)) (0 : Int32) (fun _ => (0 : Int64)) (fun _ => (0 : Int32)) (-1 : Int32) (0 : Int32) (fun _ => (0 : Int32)) (fun _ => (0 : Int32)) (0 : Int32) (fun _ => (0 : Int32)) (0 : Int32) (fun _ => (0 : Int32)) (0 : Int32) (fun _ => (0 : Int32)) (fun _ => (0 : Int32)) (0 : Int32) (fun _ => (0 : Int32)) (0 : Int32) (0 : Int32) (fun _ => (0 : Int32)) (fun _ => (0 : Int32)) (0 : Int64) (fun _ => (0 : Int32)) (fun _ => (0 : Int32)) (fun _ => (0 : Int32)) (fun _ => (0 : Int32))) (cLd (adOf ql Ll) yl 0 0 0 z13 z14 (fun _ => (0 : Int32)) (fun _ => (0 : Int32)) (fun _ => (0 : Int32)) (fun _ => (0 : Int32))) [] := ⟨_, rfl⟩
  have ad0 : ad 0 = adOf a0 [q1, q2, q3] := by rw [had]; rfl
  have cy0 : cy 0 = cyOf [cR, cI, cP] := by rw [hcy]; rfl
  have bs0 : bs 0 = cLL (adOf a0 [q1, q2, q3]) (cyOf [cR, cI, cP]) qt qlr qrr (fun _ => none) 0 qn im pst 0 0 qh qo qp qs := by rw [hbs]; rfl
  have ad1 : ad 1 = adOf qt Lt := by rw [had]; rfl
  have cy1 : cy 1 = yt := by rw [hcy]; rfl
  have bs1 : bs 1 = cTp (adOf qt Lt) yt (fun _ => (0 : Int32)) 0 0 0 0 0 0 := by rw [hbs]; rfl
  have ad2 : ad 2 = adOf qlr Llr := by rw [had]; rfl
  have cy2 : cy 2 = ylr := by rw [hcy]; rfl
  have bs2 : bs 2 = cLR (adOf qlr Llr) ylr qt := by rw [hbs]; rfl
  have ad3 : ad 3 = adOf qrr Lrr := by rw [had]; rfl
  have cy3 : cy 3 = yrr := by rw [hcy]; rfl
  have bs3 : bs 3 = cRR (adOf qrr Lrr) yrr qt (fun _ => (0 : Int32)) (fun _ => (0 : Int32)) (fun _ => (0 : Int32)) 0 0 0 := by rw [hbs]; rfl
  have ad4 : ad 4 = adOf qn Ln := by rw [had]; rfl
  have cy4 : cy 4 = yn := by rw [hcy]; rfl
  have bs4 : bs 4 = cSt (adOf qn Ln) yn (adOf qnw Lnw 0) (-1) 0 0 (fun _ => (0 : Int32)) (fun _ => (0 : Int32)) (fun _ => (0 : Int32)) 0 := by rw [hbs]; rfl
  have ad5 : ad 5 = adOf qnw Lnw := by rw [had]; rfl
  have cy5 : cy 5 = ynw := by rw [hcy]; rfl
  have bs5 : bs 5 = cW (adOf qnw Lnw) ynw ql 0 0 (fun _ => (0 : Int32)) (fun _ => (0 : Int32)) (fun _ => (0 : Int32)) (fun _ => (0 : Int32)) (fun _ => (0 : Int32)) := by rw [hbs]; rfl
  have ad6 : ad 6 = adOf qh Lh := by rw [had]; rfl
  have cy6 : cy 6 = yh := by rw [hcy]; rfl
  have bs6 : bs 6 = cH (adOf qh Lh) yh (-1) (fun _ => (0 : Int32)) (fun _ => (0 : Int32)) (fun _ => (0 : Int64)) := by rw [hbs]; rfl
  have ad7 : ad 7 = adOf qo Lo := by rw [had]; rfl
  have cy7 : cy 7 = yo := by rw [hcy]; rfl
  have bs7 : bs 7 = cO (adOf qo Lo) yo 0 0 0 0 0 0 0 0 0 0 0 qh qw (fun _ => (0 : Int32)) := by rw [hbs]; rfl
  have ad8 : ad 8 = adOf qw Low := by rw [had]; rfl
  have cy8 : cy 8 = yow := by rw [hcy]; rfl
  have bs8 : bs 8 = kWo ql (adOf qw Low) yow := by rw [hbs]; rfl
  have ad9 : ad 9 = adOf qp Lp := by rw [had]; rfl
  have cy9 : cy 9 = yp := by rw [hcy]; rfl
  have bs9 : bs 9 = cPt qp (adOf qp Lp) yp qnw 0 0 (fun _ => (0 : Int32)) 0 (fun _ => (0 : Int32)) 0 0 0 (fun _ => (0 : Int32)) (fun _ => (0 : Int32)) (fun _ => (0 : Int32)) (fun _ => (0 : Int32)) (fun _ => (0 : Int32)) := by rw [hbs]; rfl
  have ad10 : ad 10 = adOf qs Ls := by rw [had]; rfl
  have cy10 : cy 10 = ys := by rw [hcy]; rfl
  have bs10 : bs 10 = cSg (adOf qs Ls) ys 0 qsw := by rw [hbs]; rfl
  have ad11 : ad 11 = adOf qsw Lsw := by rw [had]; rfl
  have cy11 : cy 11 = ysw := by rw [hcy]; rfl
  have bs11 : bs 11 = kWo ql (adOf qsw Lsw) ysw := by rw [hbs]; rfl
  have ad46 : ad 46 = adOf am Lm := by rw [had]; rfl
  have cy46 : cy 46 = ym := by rw [hcy]; rfl
  have bs46 : bs 46 = cM (adOf am Lm) ym (fun _ => (0 : Int32)) (0 : Int32) (0 : Int32) (fun _ => (0 : Int32)) (fun _ => (0 : Int32)) (fun _ => (0 : Int32)) (fun _ => (0 : Int32)) (fun _ => (0 : Int32)) (0 : Int32) (0 : Int32) (0 : Int32) (0 : Int32) (0 : Int32) (0 : Int32) (0 : Int32) (fun _ => (0 : Int32)) (0 : Int32) (fun _ => (0 : Int64)) (0 : Int32) (fun _ => (0 : Int64)) (fun _ => (0 : Int32)) (-1 : Int32) (0 : Int32) (fun _ => (0 : Int32)) (fun _ => (0 : Int32)) (0 : Int32) (fun _ => (0 : Int32)) (0 : Int32) (fun _ => (0 : Int32)) (0 : Int32) (fun _ => (0 : Int32)) (fun _ => (0 : Int32)) (0 : Int32) (fun _ => (0 : Int32)) (0 : Int32) (0 : Int32) (fun _ => (0 : Int32)) (fun _ => (0 : Int32)) (0 : Int64) (fun _ => (0 : Int32)) (fun _ => (0 : Int32)) (fun _ => (0 : Int32)) (fun _ => (0 : Int32)) := by rw [hbs]; rfl
  have bs47 : bs 47 = cLd (adOf ql Ll) yl 0 0 0 z13 z14 (fun _ => (0 : Int32)) (fun _ => (0 : Int32)) (fun _ => (0 : Int32)) (fun _ => (0 : Int32)) := by rw [hbs]; rfl
  have bs12 : bs 12 = cSt (A1 0) (C1 0) (A2 0 0) (-1) 0 0 (fun _ => (0 : Int32)) (fun _ => (0 : Int32)) (fun _ => (0 : Int32)) 0 := by rw [hbs]; rfl
  have bs16 : bs 16 = cW (A2 0) (C2 0) ql 0 0 (fun _ => (0 : Int32)) (fun _ => (0 : Int32)) (fun _ => (0 : Int32)) (fun _ => (0 : Int32)) (fun _ => (0 : Int32)) := by rw [hbs]; rfl
  have bs13 : bs 13 = cSt (A1 1) (C1 1) (A2 1 0) (-1) 0 0 (fun _ => (0 : Int32)) (fun _ => (0 : Int32)) (fun _ => (0 : Int32)) 0 := by rw [hbs]; rfl
  have bs17 : bs 17 = cW (A2 1) (C2 1) ql 0 0 (fun _ => (0 : Int32)) (fun _ => (0 : Int32)) (fun _ => (0 : Int32)) (fun _ => (0 : Int32)) (fun _ => (0 : Int32)) := by rw [hbs]; rfl
  have bs14 : bs 14 = cSt (A1 2) (C1 2) (A2 2 0) (-1) 0 0 (fun _ => (0 : Int32)) (fun _ => (0 : Int32)) (fun _ => (0 : Int32)) 0 := by rw [hbs]; rfl
  have bs18 : bs 18 = cW (A2 2) (C2 2) ql 0 0 (fun _ => (0 : Int32)) (fun _ => (0 : Int32)) (fun _ => (0 : Int32)) (fun _ => (0 : Int32)) (fun _ => (0 : Int32)) := by rw [hbs]; rfl
  have bs15 : bs 15 = cSt (A1 3) (C1 3) (A2 3 0) (-1) 0 0 (fun _ => (0 : Int32)) (fun _ => (0 : Int32)) (fun _ => (0 : Int32)) 0 := by rw [hbs]; rfl
  have bs19 : bs 19 = cW (A2 3) (C2 3) ql 0 0 (fun _ => (0 : Int32)) (fun _ => (0 : Int32)) (fun _ => (0 : Int32)) (fun _ => (0 : Int32)) (fun _ => (0 : Int32)) := by rw [hbs]; rfl
  have bs20 : bs 20 = kWo ql (A3 0) (C3 0) := by rw [hbs]; rfl
  have bs21 : bs 21 = kWo ql (A3 1) (C3 1) := by rw [hbs]; rfl
  have bs22 : bs 22 = kWo ql (A3 2) (C3 2) := by rw [hbs]; rfl
  have bs23 : bs 23 = kWo ql (A3 3) (C3 3) := by rw [hbs]; rfl
  have bs24 : bs 24 = kWo ql (A3 4) (C3 4) := by rw [hbs]; rfl
  have bs25 : bs 25 = kWo ql (A3 5) (C3 5) := by rw [hbs]; rfl
  have bs26 : bs 26 = kWo ql (A3 6) (C3 6) := by rw [hbs]; rfl
  have bs27 : bs 27 = kWo ql (A3 7) (C3 7) := by rw [hbs]; rfl
  have bs28 : bs 28 = kWo ql (A3 8) (C3 8) := by rw [hbs]; rfl
  have bs29 : bs 29 = kWo ql (A3 9) (C3 9) := by rw [hbs]; rfl
  have bs30 : bs 30 = kWo ql (A3 10) (C3 10) := by rw [hbs]; rfl
  have bs31 : bs 31 = kWo ql (A3 11) (C3 11) := by rw [hbs]; rfl
  have bs32 : bs 32 = kWo ql (A3 12) (C3 12) := by rw [hbs]; rfl
  have bs33 : bs 33 = kWo ql (A3 13) (C3 13) := by rw [hbs]; rfl
  have bs34 : bs 34 = kWo ql (A3 14) (C3 14) := by rw [hbs]; rfl
  have bs35 : bs 35 = kWo ql (A3 15) (C3 15) := by rw [hbs]; rfl
  have bs36 : bs 36 = kWo ql (A3 16) (C3 16) := by rw [hbs]; rfl
  have bs37 : bs 37 = kWo ql (A3 17) (C3 17) := by rw [hbs]; rfl
  have bs38 : bs 38 = kWo ql (A3 18) (C3 18) := by rw [hbs]; rfl
  have bs39 : bs 39 = kWo ql (A3 19) (C3 19) := by rw [hbs]; rfl
  have bs40 : bs 40 = [] := by rw [hbs]; rfl
  have bs41 : bs 41 = [] := by rw [hbs]; rfl
  have bs42 : bs 42 = [] := by rw [hbs]; rfl
  have bs43 : bs 43 = [] := by rw [hbs]; rfl
  have bs44 : bs 44 = [] := by rw [hbs]; rfl
  have bs45 : bs 45 = [] := by rw [hbs]; rfl
  have adI : ∀ k, k < 4 → ad (12 + k) = A1 k := fun k hk => by rw [had]; exact tab_1 hk
  have adJ : ∀ k, k < 4 → ad (16 + k) = A2 k := fun k hk => by rw [had]; exact tab_2 hk
  have adP : ∀ k, k < 20 → ad (20 + k) = A3 k := fun k hk => by rw [had]; exact tab_3 hk
  have cyI : ∀ k, k < 4 → cy (12 + k) = C1 k := fun k hk => by rw [hcy]; exact tab_1 hk
  have cyJ : ∀ k, k < 4 → cy (16 + k) = C2 k := fun k hk => by rw [hcy]; exact tab_2 hk
  have cyP : ∀ k, k < 20 → cy (20 + k) = C3 k := fun k hk => by rw [hcy]; exact tab_3 hk
  have bsI : ∀ k, k < 4 → bs (12 + k) = cSt (A1 k) (C1 k) (A2 k 0) (-1) 0 0 (fun _ => (0 : Int32)) (fun _ => (0 : Int32)) (fun _ => (0 : Int32)) 0 := fun k hk => by rw [hbs]; exact tab_1 hk
  have bsJ : ∀ k, k < 4 → bs (16 + k) = cW (A2 k) (C2 k) ql 0 0 (fun _ => (0 : Int32)) (fun _ => (0 : Int32)) (fun _ => (0 : Int32)) (fun _ => (0 : Int32)) (fun _ => (0 : Int32)) := fun k hk => by rw [hbs]; exact tab_2 hk
  have bsP : ∀ k, k < 20 → bs (20 + k) = kWo ql (A3 k) (C3 k) := fun k hk => by rw [hbs]; exact tab_3 hk
  have hpm : (wz ++ cM (adOf am Lm) ym (fun _ => (0 : Int32)) (0 : Int32) (0 : Int32) (fun _ => (0 : Int32)) (fun _ => (0 : Int32)) (fun _ => (0 : Int32)) (fun _ => (0 : Int32)) (fun _ => (0 : Int32)) (0 : Int32) (0 : Int32) (0 : Int32) (0 : Int32) (0 : Int32) (0 : Int32) (0 : Int32) (fun _ => (0 : Int32)) (0 : Int32) (fun _ => (0 : Int64)) (0 : Int32) (fun _ => (0 : Int64)) (fun _ => (0 : Int32)) (-1 : Int32) (0 : Int32) (fun _ => (0 : Int32)) (fun _ => (0 : Int32)) (0 : Int32) (fun _ => (0 : Int32)) (0 : Int32) (fun _ => (0 : Int32)) (0 : Int32) (fun _ => (0 : Int32)) (fun _ => (0 : Int32)) (0 : Int32) (fun _ => (0 : Int32)) (0 : Int32) (0 : Int32) (fun _ => (0 : Int32)) (fun _ => (0 : Int32)) (0 : Int64) (fun _ => (0 : Int32)) (fun _ => (0 : Int32)) (fun _ => (0 : Int32)) (fun _ => (0 : Int32))).Perm (bW 48 bs) := by
    have h1 : ([0, 47, 1, 2, 3, 4, 5, 12, 16, 13, 17, 14, 18, 15, 19, 20, 21, 22, 23, 24, 25, 26, 27, 28, 29, 30, 31, 32, 33, 34, 35, 36, 37, 38, 39, 6, 8, 7, 9, 11, 10, 46, 40, 41, 42, 43, 44, 45] : List Nat).Perm (List.range 48) := by decide
    have h2 := h1.flatMap_right bs
    have h3 : ([0, 47, 1, 2, 3, 4, 5, 12, 16, 13, 17, 14, 18, 15, 19, 20, 21, 22, 23, 24, 25, 26, 27, 28, 29, 30, 31, 32, 33, 34, 35, 36, 37, 38, 39, 6, 8, 7, 9, 11, 10, 46, 40, 41, 42, 43, 44, 45] : List Nat).flatMap bs = wz ++ cM (adOf am Lm) ym (fun _ => (0 : Int32)) (0 : Int32) (0 : Int32) (fun _ => (0 : Int32)) (fun _ => (0 : Int32)) (fun _ => (0 : Int32)) (fun _ => (0 : Int32)) (fun _ => (0 : Int32)) (0 : Int32) (0 : Int32) (0 : Int32) (0 : Int32) (0 : Int32) (0 : Int32) (0 : Int32) (fun _ => (0 : Int32)) (0 : Int32) (fun _ => (0 : Int64)) (0 : Int32) (fun _ => (0 : Int64)) (fun _ => (0 : Int32)) (-1 : Int32) (0 : Int32) (fun _ => (0 : Int32)) (fun _ => (0 : Int32)) (0 : Int32) (fun _ => (0 : Int32)) (0 : Int32) (fun _ => (0 : Int32)) (0 : Int32) (fun _ => (0 : Int32)) (fun _ => (0 : Int32)) (0 : Int32) (fun _ => (0 : Int32)) (0 : Int32) (0 : Int32) (fun _ => (0 : Int32)) (fun _ => (0 : Int32)) (0 : Int64) (fun _ => (0 : Int32)) (fun _ => (0 : Int32)) (fun _ => (0 : Int32)) (fun _ => (0 : Int32)) := by
      rw [hw, hR]
      simp only [List.flatMap_cons, List.flatMap_nil, bs0, bs1, bs2, bs3, bs4, bs5, bs6, bs7, bs8, bs9, bs10, bs11, bs12, bs13, bs14, bs15, bs16, bs17, bs18, bs19, bs20, bs21, bs22, bs23, bs24, bs25, bs26, bs27, bs28, bs29, bs30, bs31, bs32, bs33, bs34, bs35, bs36, bs37, bs38, bs39, bs40, bs41, bs42, bs43, bs44, bs45, bs46, bs47, List.append_assoc, List.append_nil, List.nil_append, show List.range 4 = [0, 1, 2, 3] from rfl, show List.range 20 = [0, 1, 2, 3, 4, 5, 6, 7, 8, 9, 10, 11, 12, 13, 14, 15, 16, 17, 18, 19] from rfl, kSt]
    rw [← h3]
    exact h2
  rw [ht, hT] at hK
  obtain ⟨hK, kx0⟩ := kApp hK
  obtain ⟨hK, k11⟩ := kApp hK
  obtain ⟨hK, k9⟩ := kApp hK
  obtain ⟨hK, k7⟩ := kApp hK
  obtain ⟨hK, k8⟩ := kApp hK
  obtain ⟨hK, k6⟩ := kApp hK
  obtain ⟨hK, kPa⟩ := kApp hK
  obtain ⟨hK, kP⟩ := kApp hK
  obtain ⟨hK, kIm⟩ := kApp hK
  obtain ⟨hK, kI⟩ := kApp hK
  obtain ⟨hK, k45⟩ := kApp hK
  obtain ⟨hK, kR⟩ := kApp hK
  obtain ⟨hK, k3⟩ := kApp hK
  obtain ⟨hK, ke⟩ := kApp hK
  obtain ⟨hK, k1⟩ := kApp hK
  obtain ⟨hK, kl⟩ := kApp hK
  have k4 : va_K D vwCl (tSt yn) s := k45.sub [0, 1, 2] rfl
  have k5 : va_K D vwCl (tW ynw) s := k45.sub [3, 4, 5, 6, 7] rfl
  have hF : FK D s ad cy im pst := by
    refine ⟨ke, ?_, ?_, ?_, ?_, ?_, ?_, ?_, ?_, ?_, ?_, fun k hk => ⟨?_, ?_, ?_⟩, fun k hk => ⟨?_, ?_⟩⟩
    · rw [cy0]; exact kR.app (kI.app kP)
    · rw [cy1]; exact k1
    · rw [cy3]; exact k3
    · rw [cy4]; exact k4
    · rw [cy5]; exact k5
    · rw [cy6]; exact k6
    · rw [cy7]; exact k7
    · rw [cy8]; exact k8
    · rw [cy11]; exact k11
    · rw [cy46]; exact hKm
    · rw [cyI k hk]; exact vK_sub kIm (fun q hq => List.mem_flatMap.mpr ⟨k, List.mem_range.mpr hk, List.mem_append_left (tW (C2 k)) hq⟩)
    · rw [cyJ k hk]; exact vK_sub kIm (fun q hq => List.mem_flatMap.mpr ⟨k, List.mem_range.mpr hk, List.mem_append_right (tSt (C1 k)) hq⟩)
    · rw [adI k hk]; exact him k hk
    · rw [cyP k hk]; exact vK_sub kPa (fun q hq => List.mem_flatMap.mpr ⟨k, List.mem_range.mpr hk, hq⟩)
    · rw [adP k hk]; exact hps k hk
  have hT9 : Top D s ad cy im pst 48 bs := by
    refine ⟨0, 0, 0, 0, 0, 0, ql, fun _ => none, (fun _ => (0 : Int32)), 0, -1, 0, 0, (fun _ => (0 : Int32)), (fun _ => (0 : Int32)), (fun _ => (0 : Int32)), 0, 0, (fun _ => (0 : Int32)), (fun _ => (0 : Int32)), (fun _ => (0 : Int32)), (fun _ => (0 : Int32)), (fun _ => (0 : Int32)), (fun _ => (0 : Int32)), (fun _ => (0 : Int32)), (fun _ => (0 : Int32)), (fun _ => (0 : Int32)), (fun _ => (0 : Int32)), (fun _ => (0 : Int32)), (fun _ => (0 : Int32)), (fun _ => (0 : Int32)), (fun _ => (0 : Int32)), (fun _ => (0 : Int32)), by omega, ?_, ⟨0, 0, 0, 0, 0, ?_⟩, ?_, ⟨(fun _ => (0 : Int32)), (fun _ => (0 : Int32)), (fun _ => (0 : Int32)), 0, 0, 0, ?_⟩, ⟨0, ?_⟩, ?_, ⟨-1, (fun _ => (0 : Int32)), (fun _ => (0 : Int32)), (fun _ => (0 : Int64)), ?_⟩, ⟨0, 0, 0, 0, 0, 0, 0, 0, 0, 0, 0, (fun _ => (0 : Int32)), ?_⟩, ⟨ql, 0, 0, (fun _ => (0 : Int32)), (fun _ => (0 : Int32)), (fun _ => (0 : Int32)), (fun _ => (0 : Int32)), (fun _ => (0 : Int32)), ?_⟩, ⟨adOf qp Lp, yp, 0, 0, (fun _ => (0 : Int32)), (fun _ => (0 : Int32)), 0, 0, 0, (fun _ => (0 : Int32)), (fun _ => (0 : Int32)), (fun _ => (0 : Int32)), (fun _ => (0 : Int32)), (fun _ => (0 : Int32)), Or.inl rfl, ?_, k9⟩, ⟨0, ?_⟩, ⟨ql, 0, 0, (fun _ => (0 : Int32)), (fun _ => (0 : Int32)), (fun _ => (0 : Int32)), (fun _ => (0 : Int32)), (fun _ => (0 : Int32)), ?_⟩, ⟨47, adOf ql Ll, yl, 0, 0, 0, z13, z14, (fun _ => (0 : Int32)), (fun _ => (0 : Int32)), (fun _ => (0 : Int32)), (fun _ => (0 : Int32)), by omega, by omega, rfl, bs47, kl, iv00, ⟨rfl, ⟨0, by omega, rfl, bt00⟩, fun _ _ => rfl, fun _ _ => rfl, fun _ _ => rfl, fun _ _ => rfl, fun _ _ => rfl⟩, ⟨rfl, rfl, fun i hi => absurd hi (Nat.not_lt_zero i), fun i hi => absurd hi (Nat.not_lt_zero i), fun i hi => absurd hi (Nat.not_lt_zero i), fun i hi => absurd hi (Nat.not_lt_zero i)⟩, fun i hi => absurd hi (Nat.not_lt_zero i), fun h => absurd h (Nat.lt_irrefl 0), ⟨0, by omega, rfl⟩, ⟨0, by omega, rfl, rfl, fun i hi => absurd hi (Nat.not_lt_zero i)⟩⟩, ⟨fun _ => ql, (fun _ => (0 : Int32)), (fun _ => (0 : Int32)), fun _ => (fun _ => (0 : Int32)), fun _ => (fun _ => (0 : Int32)), fun _ => (fun _ => (0 : Int32)), fun _ => (fun _ => (0 : Int32)), fun _ => (fun _ => (0 : Int32)), fun k hk => ?_, ⟨by omega, by omega, fun i hi => absurd hi (Nat.not_lt_zero i)⟩, fun i hi => absurd hi (Nat.not_lt_zero i)⟩, fun k hk => ⟨ql, -1, 0, 0, (fun _ => (0 : Int32)), (fun _ => (0 : Int32)), (fun _ => (0 : Int32)), 0, 0, 0, (fun _ => (0 : Int32)), (fun _ => (0 : Int32)), (fun _ => (0 : Int32)), (fun _ => (0 : Int32)), (fun _ => (0 : Int32)), ?_, ?_, rfl, fun h => absurd rfl h⟩, ⟨fun j hj => absurd hj (Nat.not_lt_zero j), fun j _ hj => ?_⟩, ⟨(fun _ => (0 : Int32)), (fun _ => (0 : Int32)), 0, 0, 0, 0, 0, 0, 0, (fun _ => (0 : Int32)), 0, (fun _ => (0 : Int64)), 0, (fun _ => (0 : Int64)), (fun _ => (0 : Int32)), (fun _ => (0 : Int32)), 0, (fun _ => (0 : Int32)), 0, (fun _ => (0 : Int32)), (fun _ => (0 : Int32)), 0, (fun _ => (0 : Int32)), 0, 0, (fun _ => (0 : Int32)), (fun _ => (0 : Int32)), 0, ?_⟩, ⟨by omega, rfl, rfl, fun i hi => absurd hi (Nat.not_lt_zero i)⟩, by omega, Or.inl rfl, ⟨0, by omega, rfl⟩⟩
    · rw [bs0, ad0, cy0, ad1, ad2, ad3, ad4, ad6, ad7, ad9, ad10]; rfl
    · rw [bs1, ad1, cy1]
    · rw [bs2, ad2, cy2, ad1]; rfl
    · rw [bs3, ad3, cy3, ad1]; rfl
    · rw [bs4, ad4, cy4, ad5]
    · rw [bs5, ad5, cy5]
    · rw [bs6, ad6, cy6]
    · rw [bs7, ad7, cy7, ad6, ad8]; rfl
    · rw [bs8, ad8, cy8]; rfl
    · rw [bs9, ad9, ad5]; rfl
    · rw [bs10, ad10, cy10, ad11]; rfl
    · rw [bs11, ad11, cy11]; rfl
    · rw [bsP k hk, adP k hk, cyP k hk]; rfl
    · rw [bsI k hk, adI k hk, cyI k hk, adJ k hk]
    · rw [bsJ k hk, adJ k hk, cyJ k hk]
    · rw [hbs]; exact tab_r (by omega) (by omega)
    · rw [bs46, ad46, cy46]; rfl
  exact ⟨ad, cy, im, pst, bs, by rw [ad0]; rfl, by rw [ad46]; rfl, hF, hT9, vP_perm hP hpm, vD_perm hD hpm⟩
