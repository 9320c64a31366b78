section OP6
variable {K : Nat} {G : GX} {x m o n : Nat} {Sh : SH} {F : Nat → Option Nat} {I I1 I2 : MI} {L L1 L2 : ML} {tb : Nat → Nat} {T : Nat → TS}
/-- the template of a column -/
def tOf (U : TS) (c : Nat) : Nat := if (c : Int) < U 4 0 then c else (U 5 0 + ((c : Int) - U 5 0) % (U 4 0 - U 5 0)).toNat
theorem tOf_lt {U : TS} (oP : OkP U) {c : Nat} (hc : (c : Int) < clT U) (h0 : U 3 0 = 1) : (tOf U c : Int) < U 4 0 := by
  have p2 := oP.2.1
  unfold clT at hc
  unfold tOf
  split
  · assumption
  · rename_i q
    have hr : ¬ U 5 0 < 0 := by
      intro h
      rw [if_pos h] at hc
      omega
    have h1 := Int.emod_nonneg ((c : Int) - U 5 0) (show U 4 0 - U 5 0 ≠ 0 by omega)
    have h2 := Int.emod_lt_of_pos ((c : Int) - U 5 0) (show 0 < U 4 0 - U 5 0 by omega)
    omega
theorem iI_rem {a b : Int} (ha : 0 ≤ a ∧ a < 2147483648) (hb : 0 < b ∧ b < 2147483648) : iI a - iI a / iI b * iI b = iI (a % b) := by
  rw [iI_div ha hb, iI_mul, iI_sub, Int.emod_def, Int.mul_comm]
theorem k_tmplC {U : TS} {t c : Nat} {Q : Int32 → MI → ML → Prop} (cp : RCp U t I) (oP : OkP U) (h0 : U 3 0 = 1) (hc : (c : Int) < clT U) (h24 : c < 24) (hQ : Q (iI (tOf U c)) I L) : wp_X3_templateOf G Sh (t + 1) (iI c) I L Q := by
  have p2 := oP.2.1
  unfold wp_X3_templateOf
  rw [cp.2.2.1, cp.2.2.2.1]
  intro x1 e1
  rw [iI_sub] at e1
  unfold tOf at hQ
  refine lt_br rfl rfl (by omega) (by omega) (fun q => by rw [if_pos q] at hQ; exact hQ) (fun q => ?_)
  rw [if_neg q] at hQ
  have hr : ¬ U 5 0 < 0 := by
    intro h
    unfold clT at hc
    rw [if_pos h] at hc
    omega
  refine eq_br rfl iI_m1 (by omega) (by omega) (fun q => absurd q (by omega)) (fun _ => ?_)
  refine lt_br iI_0 e1 (by omega) (by omega) (fun _ => ?_) (fun q => absurd (by omega) q)
  refine ⟨by rw [e1, iI_0, iI_eq (by omega) (by omega)]; omega, ?_⟩
  rw [e1, iI_sub, iI_rem (by omega) (by omega), iI_add]
  have h1 := Int.emod_nonneg ((c : Int) - U 5 0) (show U 4 0 - U 5 0 ≠ 0 by omega)
  rw [Int.toNat_of_nonneg (by omega)] at hQ
  exact hQ
theorem k_tmplM {U : TS} {i c : Nat} {Q : Int32 → MI → ML → Prop} (hM : RM U m i I L) (hi : i < 6) (oP : OkP U) (h0 : U 3 0 = 1) (hc : (c : Int) < clT U) (h24 : c < 24) (hQ : Q (iI (tOf U c)) I L) : wp_X7_templateOf G Sh m (iI i) (iI c) I L Q := by
  have p2 := oP.2.1
  have vi : vp_in (iI (i : Int)) 6 := in_ok rfl hi (by omega)
  have ei : (iI (i : Int)).toNatClampNeg = i := nat_ok rfl (by omega)
  unfold wp_X7_templateOf
  rw [ei, hM.i4, hM.i5]
  refine ⟨vi, fun x2 e2 => ?_⟩
  unfold tOf at hQ
  refine le_br e2 rfl (by omega) (by omega) (fun q => ?_) (fun q => by rw [if_pos (by omega)] at hQ; exact hQ)
  rw [if_neg (by omega)] at hQ
  have hr : ¬ U 5 0 < 0 := by
    intro h
    unfold clT at hc
    rw [if_pos h] at hc
    omega
  rw [e2, iI_sub, iI_sub, iI_rem (by omega) (by omega), iI_add]
  refine ⟨vi, vi, vi, by rw [iI_0, iI_eq (by omega) (by omega)]; omega, ?_⟩
  have h1 := Int.emod_nonneg ((c : Int) - U 5 0) (show U 4 0 - U 5 0 ≠ 0 by omega)
  rw [Int.toNat_of_nonneg (by omega)] at hQ
  exact hQ
theorem k_limC {U : TS} {t : Nat} {Q : Int32 → MI → ML → Prop} (cp : RCp U t I) (oP : OkP U) (hQ : Q (iI (clT U)) I L) : wp_X3_columnLimit G Sh (t + 1) I L Q := by
  have p2 := oP.2.1
  unfold clT at hQ
  unfold wp_X3_columnLimit
  rw [cp.2.2.1, cp.2.2.2.1]
  refine eq_br rfl iI_m1 (by omega) (by omega) (fun q => ?_) (fun q => ?_)
  · rw [if_pos (by omega)] at hQ; exact hQ
  · rw [if_neg (by omega)] at hQ; exact hQ
theorem k_limM {U : TS} {i : Nat} {Q : Int32 → MI → ML → Prop} (hM : RM U m i I L) (hi : i < 6) (oP : OkP U) (hQ : Q (iI (clT U)) I L) : wp_X7_columnsOf G Sh m (iI i) I L Q := by
  have p2 := oP.2.1
  have vi : vp_in (iI (i : Int)) 6 := in_ok rfl hi (by omega)
  have ei : (iI (i : Int)).toNatClampNeg = i := nat_ok rfl (by omega)
  unfold clT at hQ
  unfold wp_X7_columnsOf
  rw [ei, hM.i4, hM.i5]
  refine ⟨vi, lt_br rfl iI_0 (by omega) (by omega) (fun q => ⟨vi, ?_⟩) (fun q => ?_)⟩
  · rw [if_pos (by omega)] at hQ; exact hQ
  · rw [if_neg (by omega)] at hQ; exact hQ
/-- the rows lie one behind another -/
theorem rows_le {U : TS} (oR : OkR U) : ∀ (d r : Nat), (r : Int) + d + 1 = U 13 0 → U 15 r + U 16 r ≤ U 17 0 := by
  intro d
  induction d with
  | zero =>
    intro r h
    have R := (oR.2.2.2.2.2 r (by omega)).2.2.2.2.2.1
    rw [if_neg (by omega)] at R
    omega
  | succ d ih =>
    intro r h
    have R := (oR.2.2.2.2.2 r (by omega)).2.2.2.2.2.1
    rw [if_pos (by omega)] at R
    have := ih (r + 1) (by omega)
    have := (oR.2.2.2.2.2 (r + 1) (by omega)).2.2.1
    omega
def addT (U : TS) (r e : Nat) (w s : Int) : TS := upT (upT (upT (upT (upT U 19 e (enT U r)) 20 e s) 18 e w) 17 0 (e + 1)) 16 r (U 16 r + 1)
/-- what is known of the open row r, and of the new entry's place e -/
def OpR (U : TS) (r e : Nat) : Prop := U 13 0 = (r : Int) + 1 ∧ U 17 0 = e ∧ U 15 r + U 16 r = e ∧ 0 ≤ U 15 r ∧ U 15 r ≤ 24 * r ∧ 0 ≤ U 16 r ∧ U 16 r ≤ enT U r ∧ enT U r ≤ clT U ∧ clT U ≤ 24 ∧ r < 20 ∧ U 14 0 = 1 ∧ U 3 0 = 1
theorem opR_of {U : TS} (oP : OkP U) (oR : OkR U) (ho : ¬ U 14 0 = 0) : ∃ r e : Nat, OpR U r e := by
  obtain ⟨w1, w2, w3, w4, w5, w6⟩ := oR
  have p2 := oP.2.1
  obtain ⟨r, hr⟩ : ∃ r : Nat, U 13 0 = (r : Int) + 1 := ⟨(U 13 0 - 1).toNat, by omega⟩
  have R := w6 r (by omega)
  have R6 := R.2.2.2.2.2.1
  rw [if_neg (by omega)] at R6
  have hcl : clT U ≤ 24 := by
    unfold clT
    split <;> omega
  exact ⟨r, (U 17 0).toNat, hr, by omega, by omega, R.1, R.2.1, R.2.2.1, R.2.2.2.1, R.2.2.2.2.1, hcl, by omega, by omega, by omega⟩
theorem enT_add {U : TS} {r e : Nat} {w s : Int} (O : OpR U r e) : enT (addT U r e w s) r = enT U r + s := by
  obtain ⟨a1, a2, a3, a4, a5, a6, a7, a8, a9, a10, a11, a12⟩ := O
  unfold enT
  have h16 : addT U r e w s 16 r = U 16 r + 1 := by unfold addT; simp (disch := omega) only [mu_hit, mu_miss, upT_hit, upT_miss]
  have h15 : addT U r e w s 15 r = U 15 r := by unfold addT; simp (disch := omega) only [mu_hit, mu_miss, upT_hit, upT_miss]
  have h19 : addT U r e w s 19 e = enT U r := by unfold addT; simp (disch := omega) only [mu_hit, mu_miss, upT_hit, upT_miss]
  have h20 : addT U r e w s 20 e = s := by unfold addT; simp (disch := omega) only [mu_hit, mu_miss, upT_hit, upT_miss]
  rw [h16, if_neg (by omega), h15, show (U 15 r + (U 16 r + 1) - 1).toNat = e by omega, h19, h20]
  rfl
theorem ok_add {U : TS} {r e : Nat} {w s : Int} (O : OpR U r e) (hw : 0 ≤ w ∧ w ≤ 102080) (hs : 1 ≤ s ∧ s ≤ 8) (hcl : enT U r + s ≤ clT U) (h : Ok K U) : Ok (K + 1) (addT U r e w s) ∧ ∀ r' : Nat, (r' : Int) < U 13 0 → r' ≠ r → enT (addT U r e w s) r' = enT U r' ∧ addT U r e w s 16 r' = U 16 r' ∧ ∀ j : Nat, (j : Int) < U 16 r' → (U 15 r').toNat + j ≠ e := by
  obtain ⟨oP, oG, oR, oI, oN⟩ := h
  have hen := enT_add (w := w) (s := s) O
  obtain ⟨a1, a2, a3, a4, a5, a6, a7, a8, a9, a10, a11, a12⟩ := id O
  obtain ⟨w1, w2, w3, w4, w5, w6⟩ := id oR
  have h17 : addT U r e w s 17 0 = e + 1 := by unfold addT; simp (disch := omega) only [mu_hit, mu_miss, upT_hit, upT_miss]
  have h16 : addT U r e w s 16 r = U 16 r + 1 := by unfold addT; simp (disch := omega) only [mu_hit, mu_miss, upT_hit, upT_miss]
  have g16 : ∀ q, q ≠ r → addT U r e w s 16 q = U 16 q := fun q hq => by unfold addT; simp (disch := omega) only [mu_hit, mu_miss, upT_hit, upT_miss]
  have h19 : addT U r e w s 19 e = enT U r := by unfold addT; simp (disch := omega) only [mu_hit, mu_miss, upT_hit, upT_miss]
  have h20 : addT U r e w s 20 e = s := by unfold addT; simp (disch := omega) only [mu_hit, mu_miss, upT_hit, upT_miss]
  have h18 : addT U r e w s 18 e = w := by unfold addT; simp (disch := omega) only [mu_hit, mu_miss, upT_hit, upT_miss]
  have g19 : ∀ q, q ≠ e → addT U r e w s 19 q = U 19 q := fun q hq => by unfold addT; simp (disch := omega) only [mu_hit, mu_miss, upT_hit, upT_miss]
  have g20 : ∀ q, q ≠ e → addT U r e w s 20 q = U 20 q := fun q hq => by unfold addT; simp (disch := omega) only [mu_hit, mu_miss, upT_hit, upT_miss]
  have g18 : ∀ q, q ≠ e → addT U r e w s 18 q = U 18 q := fun q hq => by unfold addT; simp (disch := omega) only [mu_hit, mu_miss, upT_hit, upT_miss]
  have V : ∀ f, (f < 16 ∨ 20 < f) → addT U r e w s f = U f := fun f hf => by unfold addT; exact (upT_fn (by omega)).trans ((upT_fn (by omega)).trans ((upT_fn (by omega)).trans ((upT_fn (by omega)).trans (upT_fn (by omega)))))
  have hlt : ∀ r' : Nat, (r' : Int) < U 13 0 → r' ≠ r → U 15 r' + U 16 r' ≤ U 15 r := by
    intro r' h1 h2
    have R := w6 r' h1
    rcases Nat.lt_or_ge (r' + 1) r with q | q
    · -- by the row before r
      have : ∀ d q' : Nat, q' + d + 1 = r → U 15 q' + U 16 q' ≤ U 15 r := by
        intro d
        induction d with
        | zero =>
          intro q' hq
          have Q := (w6 q' (by omega)).2.2.2.2.2.1
          rw [if_pos (by omega), show q' + 1 = r by omega] at Q
          omega
        | succ d ih =>
          intro q' hq
          have Q := (w6 q' (by omega)).2.2.2.2.2.1
          rw [if_pos (by omega)] at Q
          have := ih (q' + 1) (by omega)
          have := (w6 (q' + 1) (by omega)).2.2.1
          omega
      exact this (r - r' - 1) r' (by omega)
    · have Q := R.2.2.2.2.2.1
      rw [if_pos (by omega), show r' + 1 = r by omega] at Q
      omega
  have hne : ∀ r' : Nat, (r' : Int) < U 13 0 → r' ≠ r → ∀ j : Nat, (j : Int) < U 16 r' → (U 15 r').toNat + j ≠ e := by
    intro r' h1 h2 j hj
    have := hlt r' h1 h2
    have R := w6 r' h1
    omega
  have hEn : ∀ r' : Nat, (r' : Int) < U 13 0 → r' ≠ r → enT (addT U r e w s) r' = enT U r' := by
    intro r' h1 h2
    unfold enT
    have R := w6 r' h1
    rw [g16 r' h2, V 15 (by omega)]
    split
    · rfl
    · have := hlt r' h1 h2
      rw [g19 _ (by omega), g20 _ (by omega)]
  have hCl : clT (addT U r e w s) = clT U := by unfold clT; rw [V 4 (by omega), V 5 (by omega)]
  refine ⟨⟨oP.cong (fun f _ _ => V f (by omega)), oG.cong (fun f _ _ => V f (by omega)), ?_, oI.cong (by rw [V 13 (by omega)]) (fun f _ _ => V f (by omega)), oN.cong (fun f _ _ => V f (by omega))⟩, fun r' h1 h2 => ⟨hEn r' h1 h2, g16 r' h2, hne r' h1 h2⟩⟩
  unfold OkR
  rw [V 13 (by omega), V 14 (by omega), V 3 (by omega), V 15 (by omega), h17, hCl]
  refine ⟨w1, w2, w3, fun q => absurd q (by omega), w5, fun r' hr' => ?_⟩
  have R := w6 r' hr'
  have R6 := R.2.2.2.2.2.1
  by_cases q : r' = r
  · subst q
    rw [h16, hen]
    refine ⟨R.1, R.2.1, by omega, by omega, by omega, by rw [if_neg (by omega)]; omega, fun j hj => ?_⟩
    by_cases q2 : (j : Int) = U 16 r'
    · rw [show (U 15 r').toNat + j = e by omega, h18, h19, h20]
      omega
    · have E := R.2.2.2.2.2.2 j (by omega)
      have ne : (U 15 r').toNat + j ≠ e := by omega
      rw [g18 _ ne, g19 _ ne, g20 _ ne]
      omega
  · rw [g16 r' q, hEn r' hr' q]
    refine ⟨R.1, R.2.1, R.2.2.1, R.2.2.2.1, R.2.2.2.2.1, ?_, fun j hj => ?_⟩
    · rw [if_pos (by omega)]
      rw [if_pos (by omega)] at R6
      exact R6
    · have ne := hne r' hr' q j hj
      rw [g18 _ ne, g19 _ ne, g20 _ ne]
      exact R.2.2.2.2.2.2 j hj
theorem k_append {U : TS} {t r e : Nat} {w s : Int} {Q : MI → ML → Prop} (O : OpR U r e) (hw : 0 ≤ w ∧ w ≤ 102080) (hs : 1 ≤ s ∧ s ≤ 8) (hcl : enT U r + s ≤ clT U) (hok : Ok K U) (hC : RC U t I L) (hQ : ∀ J : MI, CF t I L J L → RC (addT U r e w s) t J L → Q J L) : wp_X4_append G Sh (t + 54 + 4 * r) (iI w) (iI s) I L Q := by
  obtain ⟨-, oth⟩ := ok_add O hw hs hcl hok
  have hen := enT_add (w := w) (s := s) O
  obtain ⟨a1, a2, a3, a4, a5, a6, a7, a8, a9, a10, a11, a12⟩ := id O
  obtain ⟨cp, cg, cr, ci, cn⟩ := hC
  have C := cr.2.2.1 r (by omega) (by omega)
  obtain ⟨c, hc⟩ : ∃ c : Nat, U 16 r = (c : Int) := ⟨(U 16 r).toNat, by omega⟩
  have e3 : I (t + 54 + 4 * r) 3 = iI c := by rw [C.1, hc]
  have V : ∀ f, (f < 16 ∨ 20 < f) → addT U r e w s f = U f := fun f hf => by unfold addT; exact (upT_fn (by omega)).trans ((upT_fn (by omega)).trans ((upT_fn (by omega)).trans ((upT_fn (by omega)).trans (upT_fn (by omega)))))
  have h16 : addT U r e w s 16 r = U 16 r + 1 := by unfold addT; simp (disch := omega) only [mu_hit, mu_miss, upT_hit, upT_miss]
  have g16 : ∀ q, q ≠ r → addT U r e w s 16 q = U 16 q := fun q hq => by unfold addT; simp (disch := omega) only [mu_hit, mu_miss, upT_hit, upT_miss]
  have h19 : addT U r e w s 19 e = enT U r := by unfold addT; simp (disch := omega) only [mu_hit, mu_miss, upT_hit, upT_miss]
  have h20 : addT U r e w s 20 e = s := by unfold addT; simp (disch := omega) only [mu_hit, mu_miss, upT_hit, upT_miss]
  have h18 : addT U r e w s 18 e = w := by unfold addT; simp (disch := omega) only [mu_hit, mu_miss, upT_hit, upT_miss]
  have g19 : ∀ q, q ≠ e → addT U r e w s 19 q = U 19 q := fun q hq => by unfold addT; simp (disch := omega) only [mu_hit, mu_miss, upT_hit, upT_miss]
  have g20 : ∀ q, q ≠ e → addT U r e w s 20 q = U 20 q := fun q hq => by unfold addT; simp (disch := omega) only [mu_hit, mu_miss, upT_hit, upT_miss]
  have g18 : ∀ q, q ≠ e → addT U r e w s 18 q = U 18 q := fun q hq => by unfold addT; simp (disch := omega) only [mu_hit, mu_miss, upT_hit, upT_miss]
  unfold wp_X4_append
  have vc : vp_in (iI (c : Int)) 24 := in_ok rfl (by omega) (by omega)
  have nc : (iI (c : Int)).toNatClampNeg = c := nat_ok rfl (by omega)
  rw [e3, nc]
  refine ⟨vc, fun J1 e1 => ?_⟩
  have f3 : J1 (t + 54 + 4 * r) 3 = iI c := by rw [e1, mu_miss (Or.inl (by omega)), e3]
  have f4 : J1 (t + 54 + 4 * r) 4 = iI (enT U r) := by rw [e1, mu_miss (Or.inl (by omega)), C.2.1]
  rw [f3, f4, nc]
  refine ⟨vc, fun J2 e2 => ?_⟩
  have g3 : J2 (t + 54 + 4 * r) 3 = iI c := by rw [e2, mu_miss (Or.inl (by omega)), f3]
  have g4 : J2 (t + 54 + 4 * r) 4 = iI (enT U r) := by rw [e2, mu_miss (Or.inl (by omega)), f4]
  rw [g3, nc]
  refine ⟨vc, fun J3 e3' => ?_⟩
  have k3 : J3 (t + 54 + 4 * r) 3 = iI c := by rw [e3', mu_miss (Or.inl (by omega)), g3]
  have k4 : J3 (t + 54 + 4 * r) 4 = iI (enT U r) := by rw [e3', mu_miss (Or.inl (by omega)), g4]
  rw [k3]
  intro J4 e4
  have l4 : J4 (t + 54 + 4 * r) 4 = iI (enT U r) := by rw [e4, mu_miss (Or.inr (by decide)), k4]
  rw [l4]
  intro J5 e5
  rw [iI_1, iI_add] at e4
  rw [iI_add] at e5
  refine hQ J5 ?_ ?_
  · rw [e5, e4, e3', e2, e1]
    exact ((((CF.rf.mu (by omega)).mu (by omega)).mu (by omega)).mu (by omega)).mu (by omega)
  · have off : ∀ a, (a < t + 54 + 4 * r ∨ t + 54 + 4 * r + 3 < a) → J5 a = I a := fun a ha => by rw [e5, e4, e3', e2, e1, mu_off (by omega), mu_off (by omega), mu_off (by omega), mu_off (by omega), mu_off (by omega)]
    refine ⟨cp.cong (fun f _ _ => V f (by omega)) (fun a _ _ => off a (by omega)), cg.cong (fun f _ _ => V f (by omega)) (fun a _ _ => off a (by omega)), ⟨?_, ?_, fun r' hr' h20 => ?_, fun r' hr' h20 => ?_⟩, ci.cong (fun f _ _ => V f (by omega)) (by rw [off _ (by omega)]) (by rw [off _ (by omega)]) (off _ (by omega)), cn.cong (fun f _ _ => V f (by omega)) (fun a _ _ => off a (by omega)) (fun _ _ _ => rfl)⟩
    · rw [off _ (by omega), V 13 (by omega)]; exact cr.1
    · rw [off _ (by omega), V 14 (by omega)]; exact cr.2.1
    · rw [V 13 (by omega)] at hr'
      rw [V 15 (by omega)]
      by_cases q : r' = r
      · subst q
        rw [h16, hen]
        refine ⟨?_, ?_, fun j hj => ?_⟩
        · rw [e5, e4]
          simp (disch := omega) only [mu_hit, mu_miss, upT_hit, upT_miss]
          rw [hc]
        · rw [e5]
          simp (disch := omega) only [mu_hit, mu_miss, upT_hit, upT_miss]
        · by_cases q2 : j = c
          · subst q2
            rw [show (U 15 r').toNat + j = e by omega, h18, h19, h20]
            rw [e5, e4, e3', e2, e1]
            simp (disch := omega) only [mu_hit, mu_miss, upT_hit, upT_miss]
            exact ⟨trivial, trivial, trivial⟩
          · have ne : (U 15 r').toNat + j ≠ e := by omega
            rw [g18 _ ne, g19 _ ne, g20 _ ne]
            rw [e5, e4, e3', e2, e1]
            simp (disch := omega) only [mu_hit, mu_miss, upT_hit, upT_miss]
            exact C.2.2 j (by omega)
      · obtain ⟨o1, o2, o3⟩ := oth r' hr' q
        have C' := cr.2.2.1 r' hr' h20
        rw [o1, o2, off (t + 54 + 4 * r') (by omega), off (t + 54 + 4 * r' + 1) (by omega), off (t + 54 + 4 * r' + 2) (by omega), off (t + 54 + 4 * r' + 3) (by omega)]
        refine ⟨C'.1, C'.2.1, fun j hj => ?_⟩
        have ne := o3 j hj
        rw [g18 _ ne, g19 _ ne, g20 _ ne]
        exact C'.2.2 j hj
    · rw [V 13 (by omega)] at hr'
      rw [off _ (by omega)]
      exact cr.2.2.2 r' hr' h20
theorem k_free {U : TS} {i r e : Nat} {Q : Int32 → MI → ML → Prop} (O : OpR U r e) (hM : RM U m i I L) (hi : i < 6) (hQ : Q (iI (enT U r)) I L) : wp_X7_free G Sh m (iI i) I L Q := by
  obtain ⟨a1, a2, a3, a4, a5, a6, a7, a8, a9, a10, a11, a12⟩ := id O
  have vi : vp_in (iI (i : Int)) 6 := in_ok rfl hi (by omega)
  have ei : (iI (i : Int)).toNatClampNeg = i := nat_ok rfl (by omega)
  unfold wp_X7_free
  rw [ei, hM.i13, hM.i17, a1, a2]
  refine ⟨vi, fun x2 e2 => ?_⟩
  have e2 : x2 = iI ((20 * i + r : Nat) : Int) := by rw [e2, iI_20, iI_mul, iI_add, iI_1, iI_sub]; congr 1; omega
  refine ⟨in_ok e2 (by omega) (by omega), ?_⟩
  rw [nat_ok e2 (by omega), hM.i16 (by omega)]
  unfold enT at hQ
  refine eq_br rfl iI_0 (by omega) (by omega) (fun q => by rw [if_pos q] at hQ; exact hQ) (fun q => ⟨vi, fun x6 e6 => ?_⟩)
  rw [if_neg q] at hQ
  obtain ⟨e', he⟩ : ∃ e' : Nat, e = e' + 1 := ⟨e - 1, by omega⟩
  have e6 : x6 = iI ((480 * i + e' : Nat) : Int) := by rw [e6, iI_480, iI_mul, iI_add, iI_1, iI_sub]; congr 1; omega
  refine ⟨in_ok e6 (by omega) (by omega), in_ok e6 (by omega) (by omega), ?_⟩
  rw [nat_ok e6 (by omega), hM.i19 (by omega), hM.i20 (by omega), iI_add]
  rw [show (U 15 r + U 16 r - 1).toNat = e' by omega] at hQ
  exact hQ
theorem k_add {U : TS} {i r e : Nat} {w s : Int} {Q : Int32 → MI → ML → Prop} (O : OpR U r e) (hs : 1 ≤ s ∧ s ≤ 8) (hcl : enT U r + s ≤ clT U) (hM : RM U m i I L) (hi : i < 6) (hQ : ∀ J : MI, MF m i I L J L → RM (addT U r e w s) m i J L → Q (iI (enT U r)) J L) : wp_X7_add G Sh m (iI i) (iI w) (iI s) I L Q := by
  obtain ⟨a1, a2, a3, a4, a5, a6, a7, a8, a9, a10, a11, a12⟩ := id O
  have vi : vp_in (iI (i : Int)) 6 := in_ok rfl hi (by omega)
  have ei : (iI (i : Int)).toNatClampNeg = i := nat_ok rfl (by omega)
  have he : e < 480 := by omega
  unfold wp_X7_add
  rw [ei, hM.i17, a2]
  refine ⟨vi, fun x2 e2 => ?_⟩
  have e2 : x2 = iI ((480 * i + e : Nat) : Int) := by rw [e2]; exact ix_ok 480 i e
  have v2 : vp_in x2 2880 := in_ok e2 (by omega) (by omega)
  rw [nat_ok e2 (by omega)]
  refine k_free O hM hi ⟨v2, fun J1 f1 => ⟨v2, fun J2 f2 => ⟨v2, fun J3 f3 => ⟨vi, vi, fun J4 f4 => ⟨vi, fun x16 e16 => ?_⟩⟩⟩⟩⟩
  have hJ3 : RM (upT (upT (upT U 19 e (enT U r)) 20 e s) 18 e w) m i J3 L := by
    rw [f3, f2, f1]
    exact ((hM.set 19 e _ _ rfl he rfl rfl).set 20 e _ _ rfl he rfl rfl).set 18 e _ _ rfl he rfl rfl
  have mJ3 : MF m i I L J3 L := by
    rw [f3, f2, f1]
    exact ((MF.rf.mu 19 e (by omega) he rfl).mu 20 e (by omega) he rfl).mu 18 e (by omega) he rfl
  have q17 : J3 (m + 17) i = iI e := by rw [hJ3.i17, upT_miss (Or.inl (by decide)), upT_miss (Or.inl (by decide)), upT_miss (Or.inl (by decide)), a2]
  rw [q17, iI_1, iI_add] at f4
  have hJ4 : RM (upT (upT (upT (upT U 19 e (enT U r)) 20 e s) 18 e w) 17 0 (e + 1)) m i J4 L := by
    rw [f4]
    exact hJ3.set 17 0 i _ rfl (by decide) (by simp [wid]) rfl
  have mJ4 : MF m i I L J4 L := by rw [f4]; exact mJ3.mu 17 0 (by omega) (by decide) (by simp [wid])
  have q13 : J4 (m + 13) i = iI ((r : Int) + 1) := by rw [hJ4.i13, upT_miss (Or.inl (by decide)), upT_miss (Or.inl (by decide)), upT_miss (Or.inl (by decide)), upT_miss (Or.inl (by decide)), a1]
  have e16 : x16 = iI ((20 * i + r : Nat) : Int) := by rw [e16, q13, iI_20, iI_mul, iI_add, iI_1, iI_sub]; congr 1; omega
  have v16 : vp_in x16 120 := in_ok e16 (by omega) (by omega)
  rw [nat_ok e16 (by omega)]
  have q16 : J4 (m + 16) (20 * i + r) = iI (U 16 r) := by rw [hJ4.i16 (by omega), upT_miss (Or.inl (by decide)), upT_miss (Or.inl (by decide)), upT_miss (Or.inl (by decide)), upT_miss (Or.inl (by decide))]
  rw [q16, iI_1, iI_add]
  refine ⟨v16, v16, fun J5 f5 => ⟨v2, ?_⟩⟩
  have hJ5 : RM (addT U r e w s) m i J5 L := by
    rw [f5]
    exact hJ4.set 16 r _ _ rfl (show r < 20 from a10) rfl rfl
  rw [hJ5.i19 he, show addT U r e w s 19 e = enT U r by unfold addT; simp (disch := omega) only [mu_hit, mu_miss, upT_hit, upT_miss]]
  exact hQ J5 (by rw [f5]; exact mJ4.mu 16 r (by omega) (show r < 20 from a10) rfl) hJ5
end OP6
