/-! a rule's text: the reference's stack of signs that wait -/
def TLl (tape : Nat → Int32) (tn tx : Int32) : (Nat → Int32) × (Nat → Int32) × Int32 × Int32 × Int32 × Int32 × Int32 × (Nat → Int32) × Int32 × Int32 → Option (((Nat → Int32) × (Nat → Int32) × Int32 × Int32 × Int32 × Int32 × Int32 × (Nat → Int32) × Int32 × Int32) ⊕ ((Int32 × (Nat → Int32) × (Nat → Int32) × Int32 × Int32 × Int32 × Int32 × Int32 × (Nat → Int32) × Int32) ⊕ ((Nat → Int32) × (Nat → Int32) × Int32 × Int32 × Int32 × Int32 × Int32 × (Nat → Int32) × Int32))) := (fun (z : (Nat → Int32) × (Nat → Int32) × Int32 × Int32 × Int32 × Int32 × Int32 × (Nat → Int32) × Int32 × Int32) => f12_tested_B12 tape tn tx z.1 z.2.1 z.2.2.1 z.2.2.2.1 z.2.2.2.2.1 z.2.2.2.2.2.1 z.2.2.2.2.2.2.1 z.2.2.2.2.2.2.2.1 z.2.2.2.2.2.2.2.2.1 z.2.2.2.2.2.2.2.2.2)
def FLl (tape : Nat → Int32) (tn : Int32) (sgn len : Nat → Int32) (nu ma : Int32) : Int32 × Int32 × Int32 × (Nat → Int32) × Int32 × Int32 → Option ((Int32 × Int32 × Int32 × (Nat → Int32) × Int32 × Int32) ⊕ ((Int32 × (Nat → Int32) × (Nat → Int32) × Int32 × Int32 × Int32 × Int32 × Int32 × (Nat → Int32) × Int32) ⊕ (Int32 × Int32 × Int32 × (Nat → Int32) × Int32))) := (fun (z : Int32 × Int32 × Int32 × (Nat → Int32) × Int32 × Int32) => f12_fact_B2 tape tn sgn len nu ma z.1 z.2.1 z.2.2.1 z.2.2.2.1 z.2.2.2.2.1 z.2.2.2.2.2)
def CLl (tape : Nat → Int32) (tn tx : Int32) (op : Nat → Int32) : (Nat → Int32) × (Nat → Int32) × Int32 × Int32 × Int32 → Option (((Nat → Int32) × (Nat → Int32) × Int32 × Int32 × Int32) ⊕ ((Nat → Int32) × (Nat → Int32) × Int32 × Int32 × Int32)) := (fun (z : (Nat → Int32) × (Nat → Int32) × Int32 × Int32 × Int32) => f12_closes_B5 tape tn op tx z.1 z.2.1 z.2.2.1 z.2.2.2.1 z.2.2.2.2)
def finT (tape : Nat → Int32) (tn tx : Int32) (x : Option ((Int32 × (Nat → Int32) × (Nat → Int32) × Int32 × Int32 × Int32 × Int32 × Int32 × (Nat → Int32) × Int32) ⊕ ((Nat → Int32) × (Nat → Int32) × Int32 × Int32 × Int32 × Int32 × Int32 × (Nat → Int32) × Int32))) : Option (Int32 × (Nat → Int32) × (Nat → Int32) × Int32 × Int32 × Int32 × Int32 × Int32 × (Nat → Int32) × Int32) :=
  bndS9 x (fun q12 => some q12) (fun z_sign_85 z_length_86 z_next_87 z_wrong_88 z_number_89 z_made_90 z_deep_91 z_open_92 z_opened_93 =>
  bnd1 (f12_isInside z_open_92 z_opened_93) (fun r_94 =>
  if r_94 = 0 then (bnd4 (f12_settles z_sign_85 z_length_86 tx z_deep_91 z_open_92 z_opened_93 1) (fun z_sign_97 z_length_98 z_deep_99 z_opened_100 =>
  some (1, z_sign_97, z_length_98, z_next_87, z_wrong_88, z_number_89, z_made_90, z_deep_99, z_open_92, z_opened_100))) else (bnd2 (f12_see tape tn z_next_87) (fun r_102 z_next_103 =>
  bnd2 (f12_fails z_wrong_88 0 z_next_103) (fun r_105 z_wrong_106 =>
  if r_105 = 0 ∨ r_105 = 1 then some (r_105, z_sign_85, z_length_86, z_next_103, z_wrong_106, z_number_89, z_made_90, z_deep_91, z_open_92, z_opened_93) else none)))))
def stpT (tape : Nat → Int32) (tn tx : Int32) (f : Nat) (x : Option (((Nat → Int32) × (Nat → Int32) × Int32 × Int32 × Int32 × Int32 × Int32 × (Nat → Int32) × Int32 × Int32) ⊕ ((Int32 × (Nat → Int32) × (Nat → Int32) × Int32 × Int32 × Int32 × Int32 × Int32 × (Nat → Int32) × Int32) ⊕ ((Nat → Int32) × (Nat → Int32) × Int32 × Int32 × Int32 × Int32 × Int32 × (Nat → Int32) × Int32)))) : Option ((Int32 × (Nat → Int32) × (Nat → Int32) × Int32 × Int32 × Int32 × Int32 × Int32 × (Nat → Int32) × Int32) ⊕ ((Nat → Int32) × (Nat → Int32) × Int32 × Int32 × Int32 × Int32 × Int32 × (Nat → Int32) × Int32)) := match x with
  | none => none
  | some (.inl s') => iter (TLl tape tn tx) f s'
  | some (.inr e) => some e
def tC (tape : Nat → Int32) (tn tx wr nu ma : Int32) (op sgn len : Nat → Int32) (nx de od : Int32) : Option (((Nat → Int32) × (Nat → Int32) × Int32 × Int32 × Int32 × Int32 × Int32 × (Nat → Int32) × Int32 × Int32) ⊕ ((Int32 × (Nat → Int32) × (Nat → Int32) × Int32 × Int32 × Int32 × Int32 × Int32 × (Nat → Int32) × Int32) ⊕ ((Nat → Int32) × (Nat → Int32) × Int32 × Int32 × Int32 × Int32 × Int32 × (Nat → Int32) × Int32))) :=
  bnd2 (f12_isWord tape tn nx (6385252 : Int64)) (fun r_30 z_next_31 =>
  if r_30 = 0 then (bnd2 (f12_isWord tape tn z_next_31 (28530 : Int64)) (fun r_43 z_next_44 =>
  if r_43 = 0 then (f12_tested_J54 tape tn tx sgn len z_next_44 wr nu ma de op od 0) else (f12_tested_J49 tape tn tx sgn len z_next_44 wr nu ma de op od))) else (f12_tested_J49 tape tn tx sgn len z_next_31 wr nu ma de op od))
def runC (tape : Nat → Int32) (tn tx : Int32) (f1 f2 : Nat) (sgn len : Nat → Int32) (nx de od nu ma : Int32) (op : Nat → Int32) : Option (Int32 × (Nat → Int32) × (Nat → Int32) × Int32 × Int32 × Int32 × Int32 × Int32 × (Nat → Int32) × Int32) :=
  finT tape tn tx (bnd5 (iter (CLl tape tn tx op) f1 (sgn, len, nx, de, od)) (fun a b c d e => stpT tape tn tx f2 (tC tape tn tx 0 nu ma op a b c d e)))
def runF (tape : Nat → Int32) (tn tx : Int32) (f1 f2 : Nat) (sgn len : Nat → Int32) (nx de od nu ma : Int32) (op : Nat → Int32) : Option (Int32 × (Nat → Int32) × (Nat → Int32) × Int32 × Int32 × Int32 × Int32 × Int32 × (Nat → Int32) × Int32) :=
  finT tape tn tx (bnd10 (bndS5 (iter (FLl tape tn sgn len nu ma) f1 (nx, 0, de, op, od, 1)) (fun q2 => some q2) (fun z_next_33 z_wrong_34 z_deep_35 z_open_36 z_opened_37 =>
  bnd7 (f12_compare tape tn sgn len z_next_33 z_wrong_34 nu tx ma) (fun r_38 z_sign_39 z_length_40 z_next_41 z_wrong_42 z_number_43 z_made_44 =>
  if r_38 = 0 ∨ r_38 = 1 then some (r_38, z_sign_39, z_length_40, z_next_41, z_wrong_42, z_number_43, z_made_44, z_deep_35, z_open_36, z_opened_37) else none)))
  (fun r_12 z_sign_13 z_length_14 z_next_15 z_wrong_16 z_number_17 z_made_18 z_deep_19 z_open_20 z_opened_21 =>
  if r_12 = 0 then (some (.inl (0, z_sign_13, z_length_14, z_next_15, z_wrong_16, z_number_17, z_made_18, z_deep_19, z_open_20, z_opened_21))) else (bnd5 (f12_closes tape tn z_sign_13 z_length_14 z_next_15 tx z_deep_19 z_open_20 z_opened_21) (fun a b c d e => stpT tape tn tx f2 (tC tape tn tx z_wrong_16 z_number_17 z_made_18 z_open_20 a b c d e)))))
theorem stp_10 {tape : Nat → Int32} {tn tx : Int32} {f : Nat} {T0 T1 T2 T3 T4 T5 T6 T7 T8 T9 : Type} (x : Option (T0 × T1 × T2 × T3 × T4 × T5 × T6 × T7 × T8 × T9)) (g : T0 → T1 → T2 → T3 → T4 → T5 → T6 → T7 → T8 → T9 → Option (((Nat → Int32) × (Nat → Int32) × Int32 × Int32 × Int32 × Int32 × Int32 × (Nat → Int32) × Int32 × Int32) ⊕ ((Int32 × (Nat → Int32) × (Nat → Int32) × Int32 × Int32 × Int32 × Int32 × Int32 × (Nat → Int32) × Int32) ⊕ ((Nat → Int32) × (Nat → Int32) × Int32 × Int32 × Int32 × Int32 × Int32 × (Nat → Int32) × Int32)))) : stpT tape tn tx f (bnd10 x g) = bnd10 x (fun a0 a1 a2 a3 a4 a5 a6 a7 a8 a9 => stpT tape tn tx f (g a0 a1 a2 a3 a4 a5 a6 a7 a8 a9)) := by
  cases x with
  | none => rfl
  | some z =>
    obtain ⟨a0, a1, a2, a3, a4, a5, a6, a7, a8, a9⟩ := z
    rw [bnd10_s, bnd10_s]
theorem stp_5 {tape : Nat → Int32} {tn tx : Int32} {f : Nat} {T0 T1 T2 T3 T4 : Type} (x : Option (T0 × T1 × T2 × T3 × T4)) (g : T0 → T1 → T2 → T3 → T4 → Option (((Nat → Int32) × (Nat → Int32) × Int32 × Int32 × Int32 × Int32 × Int32 × (Nat → Int32) × Int32 × Int32) ⊕ ((Int32 × (Nat → Int32) × (Nat → Int32) × Int32 × Int32 × Int32 × Int32 × Int32 × (Nat → Int32) × Int32) ⊕ ((Nat → Int32) × (Nat → Int32) × Int32 × Int32 × Int32 × Int32 × Int32 × (Nat → Int32) × Int32)))) : stpT tape tn tx f (bnd5 x g) = bnd5 x (fun a0 a1 a2 a3 a4 => stpT tape tn tx f (g a0 a1 a2 a3 a4)) := by
  cases x with
  | none => rfl
  | some z =>
    obtain ⟨a0, a1, a2, a3, a4⟩ := z
    rw [bnd5_s, bnd5_s]
theorem iter_n {X E : Type} {B : X → Option (X ⊕ E)} {x : X} (h : B x = none) (f : Nat) : iter B (f + 1) x = none := by
  show (match B x with
    | none => none
    | some (.inl s') => iter B f s'
    | some (.inr e) => some e) = none
  rw [h]
theorem iter_stp {tape : Nat → Int32} {tn tx : Int32} {f : Nat} (z : (Nat → Int32) × (Nat → Int32) × Int32 × Int32 × Int32 × Int32 × Int32 × (Nat → Int32) × Int32 × Int32) : iter (TLl tape tn tx) (f + 1) z = stpT tape tn tx f (TLl tape tn tx z) := by
  cases h : TLl tape tn tx z with
  | none => rw [iter_n h]; rfl
  | some y =>
    cases y with
    | inl y => rw [iter_l h]; rfl
    | inr y => rw [iter_r h]; rfl
theorem runF_loop {tape : Nat → Int32} {tn tx : Int32} {f : Nat} {sgn len op : Nat → Int32} {nx de od nu ma : Int32} : finT tape tn tx (iter (TLl tape tn tx) (f + 1) (sgn, len, nx, (0 : Int32), nu, ma, de, op, od, (1 : Int32))) = runF tape tn tx FUEL f sgn len nx de od nu ma op := by
  rw [iter_stp]
  unfold runF
  congr 1
  have e2 : TLl tape tn tx (sgn, len, nx, (0 : Int32), nu, ma, de, op, od, (1 : Int32)) = f12_tested_B12 tape tn tx sgn len nx 0 nu ma de op od 1 := rfl
  rw [e2]
  unfold f12_tested_B12
  rw [if_neg (show ¬ (1 : Int32) = 0 by decide), stp_10]
  unfold f12_fact FLl
  congr 1
  funext r a b c d e f g h i
  by_cases c0 : r = 0
  · rw [if_pos c0, if_pos c0]; rfl
  · rw [if_neg c0, if_neg c0, stp_5]; rfl
theorem m_tested {tape : Nat → Int32} {tn tx : Int32} {sgn len op : Nat → Int32} {nx de od nu ma : Int32} : f12_tested tape tn sgn len nx 0 nu tx ma de op od = runF tape tn tx FUEL 999999 sgn len nx 0 0 nu ma op := by
  rw [← runF_loop]
  rfl
theorem clo {tape : Nat → Int32} {tn tx : Int32} {sgn len op : Nat → Int32} {nx de od : Int32} {Q : Type} (g : (Nat → Int32) → (Nat → Int32) → Int32 → Int32 → Int32 → Option Q) : bnd5 (f12_closes tape tn sgn len nx tx de op od) g = bnd4 (f12_settles sgn len tx de op od 3) (fun a b c d => bnd5 (iter (CLl tape tn tx op) FUEL (a, b, nx, c, d)) g) := by
  unfold f12_closes CLl
  cases h : f12_settles sgn len tx de op od 3 with
  | none => rfl
  | some z =>
    obtain ⟨a, b, c, d⟩ := z
    rw [bnd4_s, bnd4_s]
    cases h2 : iter (fun (z : (Nat → Int32) × (Nat → Int32) × Int32 × Int32 × Int32) => f12_closes_B5 tape tn op tx z.1 z.2.1 z.2.2.1 z.2.2.2.1 z.2.2.2.2) FUEL (a, b, nx, c, d) with
    | none => rfl
    | some y =>
      obtain ⟨a1, a2, a3, a4, a5⟩ := y
      rw [bnd5_s, bnd5_s]
/-- the stack -/
def SKr (f : Nat → Int32) : List Nat → Prop
  | [] => True
  | v :: r => f r.length = nn v ∧ SKr f r
theorem SKr_up {f : Nat → Int32} {i : Nat} {v : Int32} : ∀ {r : List Nat}, SKr f r → r.length ≤ i → SKr (upd f i v) r
  | [], _, _ => trivial
  | x :: r, h, hi => by
    have hl : r.length + 1 ≤ i := hi
    exact ⟨by rw [upd_ne (by omega)]; exact h.1, SKr_up h.2 (by omega)⟩
theorem SKr_push {f : Nat → Int32} {v : Nat} {r : List Nat} (h : SKr f r) : SKr (upd f r.length (nn v)) (v :: r) := ⟨upd_at, SKr_up h (Nat.le_refl _)⟩
theorem SKr_drop {f : Nat → Int32} {r : List Nat} : ∀ {ops : List Nat}, SKr f (ops ++ r) → SKr f r
  | [], h => h
  | _ :: _, h => SKr_drop h.2
def dcnt : List Nat → Nat
  | [] => 0
  | v :: r => (if v = 11 ∨ v = 91 then 1 else 0) + dcnt r
def itm (ops : List Nat) : List (Nat × Nat) := ops.map (fun o => (2, o))
def stg (o : Nat) : Nat := if o = 13 then 1 else if o = 12 then 2 else if o = 11 then 3 else 0
theorem m_stg {o : Nat} (ho : o < 1000) : f12_strength (nn o) = some (nn (stg o)) := by
  unfold f12_strength stg
  by_cases c1 : o = 13
  · rw [if_pos (show nn o = 13 by rw [c1]; rfl), if_pos c1]; rfl
  · rw [if_neg (show ¬ nn o = 13 from nne (b := 13) (by omega) (by decide) c1), if_neg c1]
    by_cases c2 : o = 12
    · rw [if_pos (show nn o = 12 by rw [c2]; rfl), if_pos c2]; rfl
    · rw [if_neg (show ¬ nn o = 12 from nne (b := 12) (by omega) (by decide) c2), if_neg c2]
      by_cases c3 : o = 11
      · rw [if_pos (show nn o = 11 by rw [c3]; rfl), if_pos c3]; rfl
      · rw [if_neg (show ¬ nn o = 11 from nne (b := 11) (by omega) (by decide) c3), if_neg c3]; rfl
section
variable {k : Nat} {sg0 op : Nat → Int32}
theorem m_settles {least : Nat} {ops st : List Nat} {sgn len : Nat → Int32} {its : List (Nat × Nat)} (hk : k < 6) (h1 : 1 ≤ least) (h3 : least ≤ 3) (hops : ∀ o, o ∈ ops → least ≤ stg o) (hst : st = [] ∨ ∃ v r, st = v :: r ∧ stg v < least ∧ v < 1000) (hM : CM k sg0 sgn len its) (hS : SKr op (ops ++ st)) (hl : its.length + (ops ++ st).length ≤ 400) :
    ∃ sgn1 len1, f12_settles sgn len (nn k) (nn (dcnt (ops ++ st))) op (nn (ops ++ st).length) (nn least) = some (sgn1, len1, nn (dcnt st), nn st.length) ∧ CM k sg0 sgn1 len1 (its ++ itm ops) := by
  obtain ⟨⟨sg9, le9, d9, o9⟩, e9, h9, rfl, rfl⟩ := iter_wfF (B := fun (z : (Nat → Int32) × (Nat → Int32) × Int32 × Int32) => f12_settles_B0 op (nn least) (nn k) z.1 z.2.1 z.2.2.1 z.2.2.2) (s := (sgn, len, nn (dcnt (ops ++ st)), nn (ops ++ st).length)) (n := ops.length)
    (I := fun m z => ∃ a c, ops = a ++ c ∧ m = c.length ∧ CM k sg0 z.1 z.2.1 (its ++ itm a) ∧ z.2.2.1 = nn (dcnt (c ++ st)) ∧ z.2.2.2 = nn (c ++ st).length)
    (Po := fun z => CM k sg0 z.1 z.2.1 (its ++ itm ops) ∧ z.2.2.1 = nn (dcnt st) ∧ z.2.2.2 = nn st.length)
    ⟨[], ops, rfl, rfl, by rw [show itm [] = [] from rfl, List.append_nil]; exact hM, rfl, rfl⟩ (by rw [List.length_append] at hl; omega)
    (by
      rintro m ⟨sg, le, d, o⟩ ⟨a, c, ha, rfl, hM, rfl, rfl⟩
      dsimp only at hM ⊢
      unfold f12_settles_B0
      have hla : (its ++ itm a).length = its.length + a.length := by rw [List.length_append]; unfold itm; rw [List.length_map]
      have hlt : a.length + c.length = ops.length := by rw [ha, List.length_append]
      rw [List.length_append] at hl
      cases c with
      | nil =>
        right
        have hao : a = ops := by rw [ha, List.append_nil]
        rw [List.nil_append]
        rcases hst with rfl | ⟨v, r, rfl, hv, hv9⟩
        · rw [if_pos (show nn ([] : List Nat).length ≤ 0 from Int32.le_refl _)]
          exact ⟨_, rfl, by rw [← hao]; exact hM, rfl, rfl⟩
        · have hsk := SKr_drop hS
          have hlv : (v :: r).length = r.length + 1 := rfl
          rw [hlv] at hl ⊢
          rw [if_neg (show ¬ nn (r.length + 1) ≤ 0 from nle (b := 0) (by omega) (by decide) (by omega)), nn_pred', nn_nat (show r.length < 2147483648 by omega), if_neg (ng (by omega) (by omega)), hsk.1, m_stg hv9, bnd1_s, if_pos (nltT (by omega) (by omega) hv)]
          exact ⟨_, rfl, by rw [← hao]; exact hM, rfl, rfl⟩
      | cons v c =>
        left
        have hsk : SKr op ((v :: c) ++ st) := by rw [ha, List.append_assoc] at hS; exact SKr_drop hS
        have hop : op (c ++ st).length = nn v := hsk.1
        have hvo : least ≤ stg v := hops v (by rw [ha]; exact List.mem_append_right _ (List.mem_cons_self))
        have hv14 : v = 11 ∨ v = 12 ∨ v = 13 := by
          unfold stg at hvo
          by_cases q1 : v = 13
          · omega
          · rw [if_neg q1] at hvo
            by_cases q2 : v = 12
            · omega
            · rw [if_neg q2] at hvo
              by_cases q3 : v = 11
              · omega
              · rw [if_neg q3] at hvo; omega
        have hs3 : stg v ≤ 3 := by rcases hv14 with rfl | rfl | rfl <;> decide
        have hlc : ((v :: c) ++ st).length = (c ++ st).length + 1 := rfl
        have hlc2 : (c ++ st).length = c.length + st.length := List.length_append
        have hcc : (v :: c).length = c.length + 1 := rfl
        rw [hcc] at hlt
        obtain ⟨sgn1, len1, m1, m2⟩ := m_op (o := v) hM hk (by omega)
        rw [hlc, if_neg (show ¬ nn ((c ++ st).length + 1) ≤ 0 from nle (b := 0) (by omega) (by decide) (by omega)), nn_pred', nn_nat (show (c ++ st).length < 2147483648 by omega), if_neg (ng (by omega) (by omega)), hop, m_stg (by omega), bnd1_s, if_neg (nlt (by omega) (by omega) (by omega)), lt_df, nn_nat (show (c ++ st).length < 2147483648 by omega), if_neg (ng (by omega) (by omega)), hop, m1, bnd2_s, if_neg (ng (by omega) (by omega))]
        have hap : ops = (a ++ [v]) ++ c := by rw [ha, List.append_assoc]; rfl
        have hit : its ++ itm (a ++ [v]) = its ++ itm a ++ [(2, v)] := by unfold itm; rw [List.map_append, ← List.append_assoc]; rfl
        have hdc : dcnt ((v :: c) ++ st) = (if v = 11 ∨ v = 91 then 1 else 0) + dcnt (c ++ st) := rfl
        by_cases q : v = 11
        · rw [if_pos (show nn v = 11 by rw [q]; rfl), hdc, if_pos (Or.inl q), Nat.add_comm, nn_pred', lt_df]
          exact ⟨_, c.length, rfl, by omega, a ++ [v], c, hap, rfl, by rw [hit]; exact m2, rfl, rfl⟩
        · rw [if_neg (show ¬ nn v = 11 from nne (b := 11) (by omega) (by decide) q), hdc, if_neg (by omega), Nat.zero_add]
          exact ⟨_, c.length, rfl, by omega, a ++ [v], c, hap, rfl, by rw [hit]; exact m2, rfl, rfl⟩)
  refine ⟨sg9, le9, ?_, h9⟩
  unfold f12_settles
  rw [e9, bnd4_s]
theorem m_inside {st : List Nat} (hS : SKr op st) (hl : st.length ≤ 400) (h9 : ∀ v, v ∈ st → v < 1000) : f12_isInside op (nn st.length) = some (if 91 ∈ st then 1 else 0) := by
  have hat : ∀ (r : List Nat), SKr op r → ∀ i, i < r.length → ∃ v, v ∈ r ∧ op i = nn v ∧ r[r.length - 1 - i]? = some v := by
    intro r
    induction r with
    | nil => intro _ i hi; exact absurd hi (Nat.not_lt_zero _)
    | cons x r ih =>
      intro h i hi
      by_cases e : i = r.length
      · subst e
        refine ⟨x, List.mem_cons_self, h.1, ?_⟩
        show (x :: r)[r.length + 1 - 1 - r.length]? = some x
        rw [show r.length + 1 - 1 - r.length = 0 by omega]; rfl
      · have hi2 : i < r.length := by have : (x :: r).length = r.length + 1 := rfl
                                      omega
        obtain ⟨v, h1, h2, h3⟩ := ih h.2 i hi2
        refine ⟨v, List.mem_cons_of_mem _ h1, h2, ?_⟩
        show (x :: r)[r.length + 1 - 1 - i]? = some v
        rw [show r.length + 1 - 1 - i = (r.length - 1 - i) + 1 by omega]
        exact h3
  obtain ⟨a, ea, ha⟩ := iter_wfF (B := fun (z : Int32) => f12_isInside_B2 (nn st.length) op z) (s := (0 : Int32)) (n := st.length)
    (I := fun m z => ∃ i, m + i = st.length ∧ z = nn i ∧ ∀ j, j < i → ¬ op j = nn 91)
    (Po := fun a => (a = .inl 1 ∧ 91 ∈ st) ∨ (a = .inr () ∧ 91 ∉ st))
    ⟨0, rfl, rfl, fun j hj => absurd hj (Nat.not_lt_zero _)⟩ (by omega)
    (by
      rintro m _ ⟨i, hm, rfl, hj⟩
      unfold f12_isInside_B2
      by_cases c : i < st.length
      · obtain ⟨v, h1, h2, h3⟩ := hat st hS i c
        rw [if_neg (nle (by omega) (by omega) (by omega)), nn_nat (show i < 2147483648 by omega), if_neg (ng (by omega) (by omega)), h2]
        by_cases c2 : v = 91
        · right
          rw [if_pos (show nn v = 91 by rw [c2]; rfl)]
          exact ⟨_, rfl, Or.inl ⟨rfl, by rw [← c2]; exact h1⟩⟩
        · left
          have := h9 v h1
          rw [if_neg (show ¬ nn v = 91 from nne (b := 91) (by omega) (by decide) c2), lt_df, nn_succ]
          refine ⟨_, m - 1, rfl, by omega, i + 1, by omega, rfl, fun j hj2 => ?_⟩
          by_cases e : j = i
          · rw [e, h2]; exact nne (by omega) (by decide) c2
          · exact hj j (by omega)
      · right
        rw [if_pos (nleT (by omega) (by omega) (by omega))]
        refine ⟨_, rfl, Or.inr ⟨rfl, fun h => ?_⟩⟩
        have hmem : ∀ (r : List Nat), SKr op r → 91 ∈ r → ∃ j, j < r.length ∧ op j = nn 91 := by
          intro r
          induction r with
          | nil => intro _ h; cases h
          | cons x r ih =>
            intro hs h
            rcases List.mem_cons.mp h with h | h
            · exact ⟨r.length, Nat.lt_succ_self _, by rw [hs.1, ← h]⟩
            · obtain ⟨j, j1, j2⟩ := ih hs.2 h
              exact ⟨j, Nat.lt_succ_of_lt j1, j2⟩
        obtain ⟨j, j1, j2⟩ := hmem st hS h
        exact hj j (by omega) j2)
  unfold f12_isInside
  rw [ea]
  rcases ha with ⟨rfl, h⟩ | ⟨rfl, h⟩
  · rw [bndS0_l, if_pos h]
  · rw [bndS0_r, if_neg h]
end
