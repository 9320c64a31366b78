section OP4
variable {K : Nat} {G : GX} {x m o n : Nat} {Sh : SH} {F : Nat → Option Nat} {I I1 I2 : MI} {L L1 L2 : ML} {tb : Nat → Nat} {T : Nat → TS}
theorem eq_br {p q : Int32} {a b : Int} {A B : Prop} (hp : p = iI a) (hq : q = iI b) (ha : -2147483648 ≤ a ∧ a < 2147483648) (hb : -2147483648 ≤ b ∧ b < 2147483648) (k1 : a = b → A) (k0 : ¬ a = b → B) : (p = q → A) ∧ (¬ p = q → B) := by
  rw [hp, hq, iI_eq ha hb]
  exact ⟨k1, k0⟩
theorem lt_br {p q : Int32} {a b : Int} {A B : Prop} (hp : p = iI a) (hq : q = iI b) (ha : -2147483648 ≤ a ∧ a < 2147483648) (hb : -2147483648 ≤ b ∧ b < 2147483648) (k1 : a < b → A) (k0 : ¬ a < b → B) : (p < q → A) ∧ (¬ p < q → B) := by
  rw [hp, hq, iI_lt ha hb]
  exact ⟨k1, k0⟩
theorem le_br {p q : Int32} {a b : Int} {A B : Prop} (hp : p = iI a) (hq : q = iI b) (ha : -2147483648 ≤ a ∧ a < 2147483648) (hb : -2147483648 ≤ b ∧ b < 2147483648) (k1 : a ≤ b → A) (k0 : ¬ a ≤ b → B) : (p ≤ q → A) ∧ (¬ p ≤ q → B) := by
  rw [hp, hq, iI_le ha hb]
  exact ⟨k1, k0⟩
theorem in_ok {p : Int32} {n k : Nat} (hp : p = iI (k : Int)) (h : k < n) (hn : k < 2147483648) : vp_in p n := by
  rw [hp, iI_in (by omega)]
  omega
theorem nat_ok {p : Int32} {k : Nat} (hp : p = iI (k : Int)) (hn : k < 2147483648) : p.toNatClampNeg = k := by
  rw [hp, iI_nat (by omega)]
  rfl
theorem ix_ok (w : Nat) (i k : Nat) : iI (w : Int) * iI (i : Int) + iI (k : Int) = iI ((w * i + k : Nat) : Int) := by
  rw [iI_mul, iI_add]
  congr 1
theorem s_glue (h : Inv K G x m o Sh F I L n tb T) : lawS_glue G x m o (Rel (K + 1) G x m o) Sh F I L := by
  have hn := h.1.2.2.1; have hxm := h.1.1; have hmo := h.1.2.1
  unfold lawS_glue
  intro q1 q2 q3 q4 q5
  obtain ⟨z, hz, rfl⟩ := iI_of q1
  obtain ⟨z2, hz2, rfl⟩ := iI_of q2
  obtain ⟨z3, hz3, rfl⟩ := iI_of q3
  obtain ⟨z4, hz4, rfl⟩ := iI_of q4
  obtain ⟨z5, hz5, rfl⟩ := iI_of q5
  unfold wp_X6_glue
  refine k_find h hz (fun hz0 => Or.inl ⟨rfl, ?_⟩) (fun i hi e => Or.inr ⟨tb i, rfl, (h.2.2.1 i hi).2, ?_⟩)
  · unfold wp_X7_glue wp_X7_wrongGlue
    intro J e1
    refine k_isT (by rw [e1, mu_miss (Or.inr (by omega))]; exact h.2.2.2.1.2) hn hz (fun _ => br_y rfl (br_n (by decide) ⟨rfl, by rw [e1]; exact h.fault _⟩)) (fun q => absurd q hz0)
  · subst e; have hti := h.1.2.2.2.1 i hi; obtain ⟨⟨cp, cg, cr, ci, cn⟩, hM, oP, oG, oR, oI, oN⟩ := h.2.2.2.2.1 i hi
    have p2 := oP.2.1
    have hcf : CF (tb i) I L I L := CF.rf
    have fin : ∀ J : MI, J = mu I m 0 0 → Rel (K + 1) G x m o Sh F J L := fun J e1 => by rw [e1]; exact h.fault _
    unfold wp_X5_refuseGlue
    have vi : vp_in (iI (i : Int)) 6 := in_ok rfl (by omega) (by omega)
    have ei : (iI (i : Int)).toNatClampNeg = i := nat_ok rfl (by omega)
    refine eq_br cp.2.1 iI_0 (by omega) (by omega) (fun hl => br_n (by decide) ?_) (fun hl => ?_)
    · unfold wp_X7_glue wp_X7_wrongGlue
      intro J e1; obtain ⟨hJ, mJ, cJ⟩ := h.mst hi hcf e1; refine k_isT cJ hn (by omega) (fun q => absurd ⟨by omega, by omega⟩ q) (fun _ => br_n (by decide) ?_)
      rw [ei]
      exact ⟨vi, eq_br hJ.i3 iI_0 (by omega) (by omega) (fun _ => br_n (by decide) ⟨rfl, fin _ e1⟩) (fun q => absurd hl q)⟩
    · refine k_isIn rfl iI_0 cp.2.2.1 hz2 (by omega) (by omega) (fun hc => br_y rfl (br_n (by decide) ?_)) (fun hc => br_n (by decide) (br_y rfl ?_))
      · unfold wp_X7_glue wp_X7_wrongGlue
        intro J e1; obtain ⟨hJ, mJ, cJ⟩ := h.mst hi hcf e1; refine k_isT cJ hn (by omega) (fun q => absurd ⟨by omega, by omega⟩ q) (fun _ => br_n (by decide) ?_)
        rw [ei, hJ.i4]
        refine ⟨vi, eq_br hJ.i3 iI_0 (by omega) (by omega) (fun q => absurd q hl) (fun _ => ⟨vi, ?_⟩)⟩
        exact k_in (iI_long hz2) jI_0 (iI_long (by omega)) (by omega) (by omega) (by omega) (fun _ => br_y rfl (br_n (by decide) ⟨rfl, fin _ e1⟩)) (fun q => absurd q hc)
      · obtain ⟨k, rfl⟩ : ∃ k : Nat, z2 = (k : Int) := ⟨z2.toNat, by omega⟩
        have mod : ∀ (Ic : MI) (Q : Int32 → MI → ML → Prop), CF (tb i) I L Ic L → (∀ J : MI, J = mu Ic m 0 0 → RM (T i) m i J L → MF m i Ic L J L → wp_X7_in G Sh (Int32.toInt64 (iI z3)) (-10000 : Int64) (10000 : Int64) J L (fun r_6 I_7 L_8 => (r_6 = 0 → Q (-2 : Int32) I_7 L_8) ∧ (¬ r_6 = 0 → wp_X7_in G Sh (Int32.toInt64 (iI z4)) (0 : Int64) (10000 : Int64) I_7 L_8 (fun r_10 I_11 L_12 => (r_10 = 0 → Q (-2 : Int32) I_11 L_12) ∧ (¬ r_10 = 0 → wp_X7_in G Sh (Int32.toInt64 (iI z5)) (0 : Int64) (3 : Int64) I_11 L_12 (fun r_14 I_15 L_16 => (r_14 = 0 → Q (-2 : Int32) I_15 L_16) ∧ (¬ r_14 = 0 → vp_in (((13 : Int32) * iI i) + iI k) 78 ∧ ∀ I_19 : MI, I_19 = mu I_15 (m + 8) ((((13 : Int32) * iI i) + iI k)).toNatClampNeg (iI z3) → vp_in (((13 : Int32) * iI i) + iI k) 78 ∧ ∀ I_21 : MI, I_21 = mu I_19 (m + 9) ((((13 : Int32) * iI i) + iI k)).toNatClampNeg (iI z4) → vp_in (((13 : Int32) * iI i) + iI k) 78 ∧ ∀ I_23 : MI, I_23 = mu I_21 (m + 10) ((((13 : Int32) * iI i) + iI k)).toNatClampNeg (iI z5) → Q (1 : Int32) I_23 L_16))))))) → wp_X7_glue G Sh m (iI i) (iI k) (iI z3) (iI z4) (iI z5) Ic L Q := by
          intro Ic Q hcf hQ
          unfold wp_X7_glue wp_X7_wrongGlue
          intro J e1; obtain ⟨hJ, mJ, cJ⟩ := h.mst hi hcf e1; refine k_isT cJ hn (by omega) (fun q => absurd ⟨by omega, by omega⟩ q) (fun _ => br_n (by decide) ?_)
          rw [ei, hJ.i4]
          refine ⟨vi, eq_br hJ.i3 iI_0 (by omega) (by omega) (fun q => absurd q hl) (fun _ => ⟨vi, ?_⟩)⟩
          exact k_in (iI_long hz2) jI_0 (iI_long (by omega)) (by omega) (by omega) (by omega) (fun q => absurd hc q) (fun _ => br_n (by decide) (br_y rfl (hQ J e1 hJ mJ)))
        refine k_isIn rfl (show (-10000 : Int32) = iI (-10000) from rfl) iI_10000 hz3 (by omega) (by omega) (fun h3 => br_y rfl (mod I _ hcf (fun J e1 hJ mJ => ?_))) (fun h3 => br_n (by decide) ?_)
        · exact k_in (iI_long hz3) (show (-10000 : Int64) = jI (-10000) from rfl) jI_10000 (by omega) (by omega) (by omega) (fun _ => br_y rfl ⟨rfl, fin _ e1⟩) (fun q => absurd q h3)
        refine k_isIn rfl iI_0 iI_10000 hz4 (by omega) (by omega) (fun h4 => br_y rfl (mod I _ hcf (fun J e1 hJ mJ => ?_))) (fun h4 => br_n (by decide) ?_)
        · refine k_in (iI_long hz3) (show (-10000 : Int64) = jI (-10000) from rfl) jI_10000 (by omega) (by omega) (by omega) (fun q => absurd h3 q) (fun _ => br_n (by decide) ?_)
          exact k_in (iI_long hz4) jI_0 jI_10000 (by omega) (by omega) (by omega) (fun _ => br_y rfl ⟨rfl, fin _ e1⟩) (fun q => absurd q h4)
        refine k_isIn rfl iI_0 iI_3 hz5 (by omega) (by omega) (fun h5 => br_y rfl (mod I _ hcf (fun J e1 hJ mJ => ?_))) (fun h5 => br_n (by decide) ?_)
        · refine k_in (iI_long hz3) (show (-10000 : Int64) = jI (-10000) from rfl) jI_10000 (by omega) (by omega) (by omega) (fun q => absurd h3 q) (fun _ => br_n (by decide) ?_)
          refine k_in (iI_long hz4) jI_0 jI_10000 (by omega) (by omega) (by omega) (fun q => absurd h4 q) (fun _ => br_n (by decide) ?_)
          exact k_in (iI_long hz5) jI_0 jI_3 (by omega) (by omega) (by omega) (fun _ => br_y rfl ⟨rfl, fin _ e1⟩) (fun q => absurd q h5)
        unfold wp_X0_setStretch
        rw [iI_nat hz2, tn_cast, iI_in hz2]
        refine ⟨by omega, fun A1 a1 A2 a2 A3 a3 => ?_⟩
        have hcf3 : CF (tb i) I L A3 L := by rw [a3, a2, a1]; exact ((CF.rf.mu (by omega)).mu (by omega)).mu (by omega)
        refine mod A3 _ hcf3 (fun J e1 hJ mJ => ?_)
        refine k_in (iI_long hz3) (show (-10000 : Int64) = jI (-10000) from rfl) jI_10000 (by omega) (by omega) (by omega) (fun q => absurd h3 q) (fun _ => br_n (by decide) ?_)
        refine k_in (iI_long hz4) jI_0 jI_10000 (by omega) (by omega) (by omega) (fun q => absurd h4 q) (fun _ => br_n (by decide) ?_)
        refine k_in (iI_long hz5) jI_0 jI_3 (by omega) (by omega) (by omega) (fun q => absurd h5 q) (fun _ => br_n (by decide) ?_)
        rw [show (13 : Int32) * iI i + iI k = iI ((13 * i + k : Nat) : Int) from ix_ok 13 i k, nat_ok rfl (by omega)]
        have vk : vp_in (iI ((13 * i + k : Nat) : Int)) 78 := in_ok rfl (by omega) (by omega)
        refine ⟨vk, fun B1 b1 => ⟨vk, fun B2 b2 => ⟨vk, fun B3 b3 => ⟨rfl, ?_⟩⟩⟩⟩
        refine h.step hi (upT (upT (upT (T i) 8 k z3) 9 k z4) 10 k z5) hcf3 ?_ (mJ.tr ?_) ?_ ?_
        · rw [a3, a2, a1]
          refine ⟨cp.cong (fun f _ _ => (upT_fn (by omega)).trans ((upT_fn (by omega)).trans (upT_fn (by omega)))) (fun a _ _ => ?_), fun k' hk' => ?_, cr.cong (fun f _ _ _ => (upT_fn (by omega)).trans ((upT_fn (by omega)).trans (upT_fn (by omega)))) ?_ ?_ (fun a _ _ => ?_), ci.cong (fun f _ _ => (upT_fn (by omega)).trans ((upT_fn (by omega)).trans (upT_fn (by omega)))) ?_ ?_ ?_, cn.cong (fun f _ _ => (upT_fn (by omega)).trans ((upT_fn (by omega)).trans (upT_fn (by omega)))) (fun a _ _ => ?_) (fun _ _ _ => rfl)⟩
          · rw [mu_off (by omega), mu_off (by omega), mu_off (by omega)]
          · have := cg k' hk'
            by_cases e : k' = k
            · subst e
              simp (disch := omega) only [mu_hit, mu_miss, upT_hit, upT_miss]
              exact ⟨trivial, trivial, trivial, this.2.2.2⟩
            · simp (disch := omega) only [mu_hit, mu_miss, upT_hit, upT_miss]
              exact this
          · rw [mu_off (by omega), mu_off (by omega), mu_off (by omega)]
          · rw [mu_off (by omega), mu_off (by omega), mu_off (by omega)]
          · rw [mu_off (by omega), mu_off (by omega), mu_off (by omega)]
          · rw [mu_off (by omega), mu_off (by omega), mu_off (by omega)]
          · rw [mu_off (by omega), mu_off (by omega), mu_off (by omega)]
          · rw [mu_off (by omega), mu_off (by omega), mu_off (by omega)]
          · rw [mu_off (by omega), mu_off (by omega), mu_off (by omega)]
        · rw [b3, b2, b1]
          exact ((MF.rf.mu 8 k (by omega) (show k < 13 by omega) rfl).mu 9 k (by omega) (show k < 13 by omega) rfl).mu 10 k (by omega) (show k < 13 by omega) rfl
        · rw [b3, b2, b1]
          exact ((hJ.set 8 k _ z3 rfl (show k < 13 by omega) rfl rfl).set 9 k _ z4 rfl (show k < 13 by omega) rfl rfl).set 10 k _ z5 rfl (show k < 13 by omega) rfl rfl
        · refine ⟨oP.cong (fun f _ _ => (upT_fn (by omega)).trans ((upT_fn (by omega)).trans (upT_fn (by omega)))), fun k' hk' => ?_, oR.cong (fun f _ _ _ => (upT_fn (by omega)).trans ((upT_fn (by omega)).trans (upT_fn (by omega)))), oI.cong rfl (fun f _ _ => (upT_fn (by omega)).trans ((upT_fn (by omega)).trans (upT_fn (by omega)))), oN.cong (fun f _ _ => (upT_fn (by omega)).trans ((upT_fn (by omega)).trans (upT_fn (by omega))))⟩
          · have := oG k' hk'
            by_cases e : k' = k
            · subst e
              simp (disch := omega) only [mu_hit, mu_miss, upT_hit, upT_miss]
              omega
            · simp (disch := omega) only [mu_hit, mu_miss, upT_hit, upT_miss]
              exact this
end OP4
