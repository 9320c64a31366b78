section OP5
variable {K : Nat} {G : GX} {x m o n : Nat} {Sh : SH} {F : Nat → Option Nat} {I I1 I2 : MI} {L L1 L2 : ML} {tb : Nat → Nat} {T : Nat → TS}
theorem s_shrink (h : Inv K G x m o Sh F I L n tb T) : lawS_shrink G x m o (Rel (K + 1) G x m o) Sh F I L := by
  have hn := h.1.2.2.1; have hxm := h.1.1; have hmo := h.1.2.1
  unfold lawS_shrink
  intro q1 q2 q3 q4
  obtain ⟨z, hz, rfl⟩ := iI_of q1
  obtain ⟨z2, hz2, rfl⟩ := iI_of q2
  obtain ⟨z3, hz3, rfl⟩ := iI_of q3
  obtain ⟨z4, hz4, rfl⟩ := iI_of q4
  unfold wp_X6_shrink
  refine k_find h hz (fun hz0 => Or.inl ⟨rfl, ?_⟩) (fun i hi e => Or.inr ⟨tb i, rfl, (h.2.2.1 i hi).2, ?_⟩)
  · unfold wp_X7_shrink wp_X7_wrongGlue
    intro J e1
    refine k_isT (by rw [e1, mu_miss (Or.inr (by omega))]; exact h.2.2.2.1.2) hn hz (fun _ => br_y rfl (br_n (by decide) ⟨rfl, by rw [e1]; exact h.fault _⟩)) (fun q => absurd q hz0)
  · subst e; have hti := h.1.2.2.2.1 i hi; obtain ⟨⟨cp, cg, cr, ci, cn⟩, hM, oP, oG, oR, oI, oN⟩ := h.2.2.2.2.1 i hi
    have p2 := oP.2.1
    have hcf : CF (tb i) I L I L := CF.rf
    have fin : ∀ J : MI, J = mu I m 0 0 → Rel (K + 1) G x m o Sh F J L := fun J e1 => by rw [e1]; exact h.fault _
    unfold wp_X5_refuseGlue
    have vi : vp_in (iI (i : Int)) 6 := in_ok rfl (by omega) (by omega)
    have ei : (iI (i : Int)).toNatClampNeg = i := nat_ok rfl (by omega)
    refine eq_br cp.2.1 iI_0 (by omega) (by omega) (fun hl => br_n (by decide) ?_) (fun hl => ?_)
    · unfold wp_X7_shrink wp_X7_wrongGlue
      intro J e1; obtain ⟨hJ, mJ, cJ⟩ := h.mst hi hcf e1; refine k_isT cJ hn (by omega) (fun q => absurd ⟨by omega, by omega⟩ q) (fun _ => br_n (by decide) ?_)
      rw [ei]
      exact ⟨vi, eq_br hJ.i3 iI_0 (by omega) (by omega) (fun _ => br_n (by decide) ⟨rfl, fin _ e1⟩) (fun q => absurd hl q)⟩
    · refine k_isIn rfl iI_0 cp.2.2.1 hz2 (by omega) (by omega) (fun hc => br_y rfl (br_n (by decide) ?_)) (fun hc => br_n (by decide) (br_y rfl ?_))
      · unfold wp_X7_shrink wp_X7_wrongGlue
        intro J e1; obtain ⟨hJ, mJ, cJ⟩ := h.mst hi hcf e1; refine k_isT cJ hn (by omega) (fun q => absurd ⟨by omega, by omega⟩ q) (fun _ => br_n (by decide) ?_)
        rw [ei, hJ.i4]
        refine ⟨vi, eq_br hJ.i3 iI_0 (by omega) (by omega) (fun q => absurd q hl) (fun _ => ⟨vi, ?_⟩)⟩
        exact k_in (iI_long hz2) jI_0 (iI_long (by omega)) (by omega) (by omega) (by omega) (fun _ => br_y rfl (br_n (by decide) ⟨rfl, fin _ e1⟩)) (fun q => absurd q hc)
      · obtain ⟨k, rfl⟩ : ∃ k : Nat, z2 = (k : Int) := ⟨z2.toNat, by omega⟩
        have mod : ∀ (Ic : MI) (Q : Int32 → MI → ML → Prop), CF (tb i) I L Ic L → (∀ J : MI, J = mu Ic m 0 0 → RM (T i) m i J L → MF m i Ic L J L → wp_X7_in G Sh (Int32.toInt64 (iI z3)) (0 : Int64) (10000 : Int64) J L (fun r_6 I_7 L_8 => (r_6 = 0 → Q (-2 : Int32) I_7 L_8) ∧ (¬ r_6 = 0 → wp_X7_in G Sh (Int32.toInt64 (iI z4)) (0 : Int64) (3 : Int64) I_7 L_8 (fun r_10 I_11 L_12 => (r_10 = 0 → Q (-2 : Int32) I_11 L_12) ∧ (¬ r_10 = 0 → vp_in (((13 : Int32) * iI i) + iI k) 78 ∧ ∀ I_15 : MI, I_15 = mu I_11 (m + 11) ((((13 : Int32) * iI i) + iI k)).toNatClampNeg (iI z3) → vp_in (((13 : Int32) * iI i) + iI k) 78 ∧ ∀ I_17 : MI, I_17 = mu I_15 (m + 12) ((((13 : Int32) * iI i) + iI k)).toNatClampNeg (iI z4) → Q (1 : Int32) I_17 L_12))))) → wp_X7_shrink G Sh m (iI i) (iI k) (iI z3) (iI z4) Ic L Q := by
          intro Ic Q hcf hQ
          unfold wp_X7_shrink wp_X7_wrongGlue
          intro J e1; obtain ⟨hJ, mJ, cJ⟩ := h.mst hi hcf e1; refine k_isT cJ hn (by omega) (fun q => absurd ⟨by omega, by omega⟩ q) (fun _ => br_n (by decide) ?_)
          rw [ei, hJ.i4]
          refine ⟨vi, eq_br hJ.i3 iI_0 (by omega) (by omega) (fun q => absurd q hl) (fun _ => ⟨vi, ?_⟩)⟩
          exact k_in (iI_long hz2) jI_0 (iI_long (by omega)) (by omega) (by omega) (by omega) (fun q => absurd hc q) (fun _ => br_n (by decide) (br_y rfl (hQ J e1 hJ mJ)))
        refine k_isIn rfl iI_0 iI_10000 hz3 (by omega) (by omega) (fun h3 => br_y rfl (mod I _ hcf (fun J e1 hJ mJ => ?_))) (fun h3 => br_n (by decide) ?_)
        · exact k_in (iI_long hz3) jI_0 jI_10000 (by omega) (by omega) (by omega) (fun _ => br_y rfl ⟨rfl, fin _ e1⟩) (fun q => absurd q h3)
        refine k_isIn rfl iI_0 iI_3 hz4 (by omega) (by omega) (fun h4 => br_y rfl (mod I _ hcf (fun J e1 hJ mJ => ?_))) (fun h4 => br_n (by decide) ?_)
        · refine k_in (iI_long hz3) jI_0 jI_10000 (by omega) (by omega) (by omega) (fun q => absurd h3 q) (fun _ => br_n (by decide) ?_)
          exact k_in (iI_long hz4) jI_0 jI_3 (by omega) (by omega) (by omega) (fun _ => br_y rfl ⟨rfl, fin _ e1⟩) (fun q => absurd q h4)
        unfold wp_X0_setShrink
        rw [iI_nat hz2, tn_cast, iI_in hz2]
        refine ⟨by omega, fun A1 a1 A2 a2 => ?_⟩
        have hcf3 : CF (tb i) I L A2 L := by rw [a2, a1]; exact (CF.rf.mu (by omega)).mu (by omega)
        refine mod A2 _ hcf3 (fun J e1 hJ mJ => ?_)
        refine k_in (iI_long hz3) jI_0 jI_10000 (by omega) (by omega) (by omega) (fun q => absurd h3 q) (fun _ => br_n (by decide) ?_)
        refine k_in (iI_long hz4) jI_0 jI_3 (by omega) (by omega) (by omega) (fun q => absurd h4 q) (fun _ => br_n (by decide) ?_)
        rw [show (13 : Int32) * iI i + iI k = iI ((13 * i + k : Nat) : Int) from ix_ok 13 i k, nat_ok rfl (by omega)]
        have vk : vp_in (iI ((13 * i + k : Nat) : Int)) 78 := in_ok rfl (by omega) (by omega)
        refine ⟨vk, fun B1 b1 => ⟨vk, fun B2 b2 => ⟨rfl, ?_⟩⟩⟩
        refine h.step hi (upT (upT (T i) 11 k z3) 12 k z4) hcf3 ?_ (mJ.tr ?_) ?_ ?_
        · rw [a2, a1]
          refine ⟨cp.cong (fun f _ _ => (upT_fn (by omega)).trans (upT_fn (by omega))) (fun a _ _ => ?_), fun k' hk' => ?_, cr.cong (fun f _ _ _ => (upT_fn (by omega)).trans (upT_fn (by omega))) ?_ ?_ (fun a _ _ => ?_), ci.cong (fun f _ _ => (upT_fn (by omega)).trans (upT_fn (by omega))) ?_ ?_ ?_, cn.cong (fun f _ _ => (upT_fn (by omega)).trans (upT_fn (by omega))) (fun a _ _ => ?_) (fun _ _ _ => rfl)⟩
          · rw [mu_off (by omega), mu_off (by omega)]
          · have := cg k' hk'
            by_cases e : k' = k
            · subst e
              simp (disch := omega) only [mu_hit, mu_miss, upT_hit, upT_miss]
              exact ⟨this.1, this.2.1, this.2.2.1, trivial, trivial⟩
            · simp (disch := omega) only [mu_hit, mu_miss, upT_hit, upT_miss]
              exact this
          · rw [mu_off (by omega), mu_off (by omega)]
          · rw [mu_off (by omega), mu_off (by omega)]
          · rw [mu_off (by omega), mu_off (by omega)]
          · rw [mu_off (by omega), mu_off (by omega)]
          · rw [mu_off (by omega), mu_off (by omega)]
          · rw [mu_off (by omega), mu_off (by omega)]
          · rw [mu_off (by omega), mu_off (by omega)]
        · rw [b2, b1]
          exact (MF.rf.mu 11 k (by omega) (show k < 13 by omega) rfl).mu 12 k (by omega) (show k < 13 by omega) rfl
        · rw [b2, b1]
          exact (hJ.set 11 k _ z3 rfl (show k < 13 by omega) rfl rfl).set 12 k _ z4 rfl (show k < 13 by omega) rfl rfl
        · refine ⟨oP.cong (fun f _ _ => (upT_fn (by omega)).trans (upT_fn (by omega))), fun k' hk' => ?_, oR.cong (fun f _ _ _ => (upT_fn (by omega)).trans (upT_fn (by omega))), oI.cong rfl (fun f _ _ => (upT_fn (by omega)).trans (upT_fn (by omega))), oN.cong (fun f _ _ => (upT_fn (by omega)).trans (upT_fn (by omega)))⟩
          · have := oG k' hk'
            by_cases e : k' = k
            · subst e
              simp (disch := omega) only [mu_hit, mu_miss, upT_hit, upT_miss]
              omega
            · simp (disch := omega) only [mu_hit, mu_miss, upT_hit, upT_miss]
              exact this
theorem iI_m1 : (-1 : Int32) = iI (-1) := by decide
theorem k_stand {U : TS} {i k : Nat} {v : Int32} {w : Int} {Q : MI → ML → Prop} (hM : RM U m i I L) (hi : i < 6) (hk : U 21 0 = k) (h40 : k < 40) (hv : v = iI w) (hQ : ∀ J : MI, MF m i I L J L → RM (upT (upT U 22 k w) 21 0 (k + 1)) m i J L → Q J L) : wp_X7_stand G Sh m (iI i) v I L Q := by
  have vi : vp_in (iI (i : Int)) 6 := in_ok rfl hi (by omega)
  have ei : (iI (i : Int)).toNatClampNeg = i := nat_ok rfl (by omega)
  unfold wp_X7_stand
  rw [ei, hM.i21, hk, show (40 : Int32) * iI i + iI k = iI ((40 * i + k : Nat) : Int) from ix_ok 40 i k, nat_ok rfl (by omega)]
  refine ⟨vi, in_ok rfl (by omega) (by omega), fun J1 e1 => ⟨vi, vi, fun J2 e2 => ?_⟩⟩
  have hJ1 : RM (upT U 22 k w) m i J1 L := by rw [e1]; exact hM.set 22 k _ w rfl h40 rfl hv
  refine hQ J2 ?_ ?_
  · rw [e2, e1]
    exact (MF.rf.mu 22 k (by omega) h40 rfl).mu 21 0 (by omega) (by decide) (by simp [wid])
  · rw [e2, hJ1.i21, upT_miss (Or.inl (by decide)), hk, iI_1, iI_add]
    exact hJ1.set 21 0 i _ rfl (by decide) (by simp [wid]) rfl
theorem s_between (h : Inv K G x m o Sh F I L n tb T) : lawS_between G x m o (Rel (K + 1) G x m o) Sh F I L := by
  have hn := h.1.2.2.1; have hxm := h.1.1; have hmo := h.1.2.1
  unfold lawS_between
  intro q1
  obtain ⟨z, hz, rfl⟩ := iI_of q1
  unfold wp_X6_between
  refine k_find h hz (fun hz0 => Or.inl ⟨rfl, ?_⟩) (fun i hi e => Or.inr ⟨tb i, rfl, (h.2.2.1 i hi).2, ?_⟩)
  · unfold wp_X7_between
    intro J e1; refine k_isT (by rw [e1, mu_miss (Or.inr (by omega))]; exact h.2.2.2.1.2) hn hz (fun _ => br_y rfl ⟨rfl, by rw [e1]; exact h.fault _⟩) (fun q => absurd q hz0)
  · subst e; have hti := h.1.2.2.2.1 i hi; obtain ⟨⟨cp, cg, cr, ci, cn⟩, hM, oP, oG, oR, oI, oN⟩ := h.2.2.2.2.1 i hi
    have p2 := oP.2.1
    have w1 := oR.1
    have w2 := oR.2.1
    obtain ⟨y1, y2, y3⟩ := id oI
    have vi : vp_in (iI (i : Int)) 6 := in_ok rfl (by omega) (by omega)
    have ei : (iI (i : Int)).toNatClampNeg = i := nat_ok rfl (by omega)
    have hcf : CF (tb i) I L I L := CF.rf
    have fin : ∀ J : MI, J = mu I m 0 0 → Rel (K + 1) G x m o Sh F J L := fun J e1 => by rw [e1]; exact h.fault _
    unfold wp_X5_addBetween wp_X5_isAtRest
    refine eq_br cp.2.1 iI_0 (by omega) (by omega) (fun hl => br_y rfl ?_) (fun hl => eq_br cr.2.1 iI_0 (by omega) (by omega) (fun ho => br_n (by decide) ?_) (fun ho => br_y rfl ?_))
    · unfold wp_X7_between
      intro J e1; obtain ⟨hJ, mJ, cJ⟩ := h.mst hi hcf e1; refine k_isT cJ hn (by omega) (fun q => absurd ⟨by omega, by omega⟩ q) (fun _ => br_n (by decide) ?_)
      rw [ei]
      exact ⟨vi, eq_br hJ.i3 iI_0 (by omega) (by omega) (fun _ => ⟨rfl, fin _ e1⟩) (fun q => absurd hl q)⟩
    · refine lt_br ci.2.1 iI_20 (by omega) (by omega) (fun hb => ?_) (fun hb => ?_)
      · obtain ⟨k, hk⟩ : ∃ k : Nat, T i 21 0 = (k : Int) := ⟨(T i 21 0).toNat, by omega⟩
        unfold wp_X5_putItem
        rw [ci.1, ci.2.1, hk, nat_ok rfl (by omega)]
        refine ⟨in_ok rfl (by omega) (by omega), fun A1 a1 A2 a2 A3 a3 => ?_⟩
        have hcf3 : CF (tb i) I L A3 L := by rw [a3, a2, a1]; exact ((CF.rf.mu (by omega)).mu (by omega)).mu (by omega)
        have f7 : A1 (tb i) 7 = iI k := by rw [a1, mu_miss (Or.inl (by omega)), ci.1, hk]
        have f6 : A2 (tb i) 6 = iI (T i 23 0) := by rw [a2, a1, mu_miss (Or.inr (by decide)), mu_miss (Or.inl (by omega)), ci.2.1]
        have g6 : A3 (tb i) 6 = iI (T i 23 0 + 1) := by rw [a3, mu_hit ⟨rfl, rfl⟩, f6, iI_1, iI_add]
        rw [g6]
        unfold wp_X7_between
        intro J e1
        obtain ⟨hJ, mJ, cJ⟩ := h.mst hi hcf3 e1
        refine k_isT cJ hn (by omega) (fun q => absurd ⟨by omega, by omega⟩ q) (fun _ => br_n (by decide) ?_)
        rw [ei]
        refine ⟨vi, eq_br hJ.i3 iI_0 (by omega) (by omega) (fun q => absurd q hl) (fun _ => ⟨vi, eq_br hJ.i14 iI_0 (by omega) (by omega) (fun _ => ⟨vi, eq_br hJ.i23 iI_20 (by omega) (by omega) (fun q => absurd q (by omega)) (fun _ => ⟨vi, ?_⟩)⟩) (fun q => absurd ho q)⟩)⟩
        rw [hJ.i23, iI_m1, iI_sub]
        refine k_stand hJ (by omega) hk (by omega) rfl (fun J2 mJ2 hJ2 => ⟨vi, vi, fun J3 e3 => ⟨vi, ?_⟩⟩)
        have r23 : J2 (m + 23) i = iI (T i 23 0) := by rw [hJ2.i23, upT_miss (Or.inl (by decide)), upT_miss (Or.inl (by decide))]
        refine ⟨by rw [e3, mu_hit ⟨rfl, rfl⟩, r23, iI_1, iI_add], ?_⟩
        refine h.step hi (upT (upT (upT (T i) 22 k (-1 - T i 23 0)) 21 0 (k + 1)) 23 0 (T i 23 0 + 1)) hcf3 ?_ ((mJ.tr mJ2).tr ?_) ?_ ?_
        · rw [a3, f6, a2, f7, a1]
          refine ⟨cp.cong (fun f _ _ => (upT_fn (by omega)).trans ((upT_fn (by omega)).trans (upT_fn (by omega)))) (fun a _ _ => ?_), cg.cong (fun f _ _ => (upT_fn (by omega)).trans ((upT_fn (by omega)).trans (upT_fn (by omega)))) (fun a _ _ => ?_), cr.cong (fun f _ _ _ => (upT_fn (by omega)).trans ((upT_fn (by omega)).trans (upT_fn (by omega)))) ?_ ?_ (fun a _ _ => ?_), ⟨?_, ?_, fun k' hk' => ?_⟩, cn.cong (fun f _ _ => (upT_fn (by omega)).trans ((upT_fn (by omega)).trans (upT_fn (by omega)))) (fun a _ _ => ?_) (fun _ _ _ => rfl)⟩
          · rw [mu_off (by omega), mu_off (by omega), mu_off (by omega)]
          · rw [mu_off (by omega), mu_off (by omega), mu_off (by omega)]
          · rw [mu_miss (Or.inr (by decide)), mu_miss (Or.inr (by decide)), mu_miss (Or.inl (by omega))]
          · rw [mu_miss (Or.inr (by decide)), mu_miss (Or.inr (by decide)), mu_miss (Or.inl (by omega))]
          · rw [mu_off (by omega), mu_off (by omega), mu_off (by omega)]
          · simp (disch := omega) only [mu_hit, mu_miss, upT_hit, upT_miss]
            rw [iI_1, iI_add]
          · simp (disch := omega) only [mu_hit, mu_miss, upT_hit, upT_miss]
            rw [iI_1, iI_add]
          · rw [upT_miss (Or.inl (by decide)), upT_hit ⟨rfl, rfl⟩] at hk'
            by_cases e : k' = k
            · subst e
              simp (disch := omega) only [mu_hit, mu_miss, upT_hit, upT_miss]
              rw [iI_m1, iI_sub]
            · simp (disch := omega) only [mu_hit, mu_miss, upT_hit, upT_miss]
              exact ci.2.2 k' (by omega)
          · rw [mu_off (by omega), mu_off (by omega), mu_off (by omega)]
        · rw [e3]
          exact MF.rf.mu 23 0 (by omega) (by decide) (by simp [wid])
        · rw [e3, r23, iI_1, iI_add]
          exact hJ2.set 23 0 i _ rfl (by decide) (by simp [wid]) rfl
        · refine ⟨oP.cong (fun f _ _ => (upT_fn (by omega)).trans ((upT_fn (by omega)).trans (upT_fn (by omega)))), oG.cong (fun f _ _ => (upT_fn (by omega)).trans ((upT_fn (by omega)).trans (upT_fn (by omega)))), oR.cong (fun f _ _ _ => (upT_fn (by omega)).trans ((upT_fn (by omega)).trans (upT_fn (by omega)))), ?_, oN.cong (fun f _ _ => (upT_fn (by omega)).trans ((upT_fn (by omega)).trans (upT_fn (by omega))))⟩
          unfold OkI
          simp (disch := omega) only [mu_hit, mu_miss, upT_hit, upT_miss]
          omega
      · unfold wp_X7_between
        intro J e1; obtain ⟨hJ, mJ, cJ⟩ := h.mst hi hcf e1; refine k_isT cJ hn (by omega) (fun q => absurd ⟨by omega, by omega⟩ q) (fun _ => br_n (by decide) ?_)
        rw [ei]
        exact ⟨vi, eq_br hJ.i3 iI_0 (by omega) (by omega) (fun q => absurd q hl) (fun _ => ⟨vi, eq_br hJ.i14 iI_0 (by omega) (by omega) (fun _ => ⟨vi, eq_br hJ.i23 iI_20 (by omega) (by omega) (fun _ => ⟨rfl, fin _ e1⟩) (fun q => absurd (by omega) q)⟩) (fun q => absurd ho q)⟩)⟩
    · unfold wp_X7_between
      intro J e1; obtain ⟨hJ, mJ, cJ⟩ := h.mst hi hcf e1; refine k_isT cJ hn (by omega) (fun q => absurd ⟨by omega, by omega⟩ q) (fun _ => br_n (by decide) ?_)
      rw [ei]
      exact ⟨vi, eq_br hJ.i3 iI_0 (by omega) (by omega) (fun q => absurd q hl) (fun _ => ⟨vi, eq_br hJ.i14 iI_0 (by omega) (by omega) (fun q => absurd q ho) (fun _ => ⟨rfl, fin _ e1⟩)⟩)⟩
theorem s_row (h : Inv K G x m o Sh F I L n tb T) : lawS_row G x m o (Rel (K + 1) G x m o) Sh F I L := by
  have hn := h.1.2.2.1; have hxm := h.1.1; have hmo := h.1.2.1
  unfold lawS_row
  intro q1
  obtain ⟨z, hz, rfl⟩ := iI_of q1
  unfold wp_X6_row
  refine k_find h hz (fun hz0 => Or.inl ⟨rfl, ?_⟩) (fun i hi e => Or.inr ⟨tb i, rfl, (h.2.2.1 i hi).2, ?_⟩)
  · unfold wp_X7_row
    intro J e1; refine k_isT (by rw [e1, mu_miss (Or.inr (by omega))]; exact h.2.2.2.1.2) hn hz (fun _ => br_y rfl ⟨rfl, by rw [e1]; exact h.fault _⟩) (fun q => absurd q hz0)
  · subst e; have hti := h.1.2.2.2.1 i hi; obtain ⟨⟨cp, cg, cr, ci, cn⟩, hM, oP, oG, oR, oI, oN⟩ := h.2.2.2.2.1 i hi
    have p2 := oP.2.1
    obtain ⟨w1, w2, w3, w4, w5, w6⟩ := id oR
    obtain ⟨y1, y2, y3⟩ := id oI
    have vi : vp_in (iI (i : Int)) 6 := in_ok rfl (by omega) (by omega)
    have ei : (iI (i : Int)).toNatClampNeg = i := nat_ok rfl (by omega)
    have hcf : CF (tb i) I L I L := CF.rf
    have fin : ∀ J : MI, J = mu I m 0 0 → Rel (K + 1) G x m o Sh F J L := fun J e1 => by rw [e1]; exact h.fault _
    unfold wp_X5_openRow wp_X5_isAtRest
    refine eq_br cp.2.1 iI_0 (by omega) (by omega) (fun hl => br_y rfl ?_) (fun hl => eq_br cr.2.1 iI_0 (by omega) (by omega) (fun ho => br_n (by decide) ?_) (fun ho => br_y rfl ?_))
    · unfold wp_X7_row
      intro J e1; obtain ⟨hJ, mJ, cJ⟩ := h.mst hi hcf e1; refine k_isT cJ hn (by omega) (fun q => absurd ⟨by omega, by omega⟩ q) (fun _ => br_n (by decide) ?_)
      rw [ei]
      exact ⟨vi, eq_br hJ.i3 iI_0 (by omega) (by omega) (fun _ => ⟨rfl, fin _ e1⟩) (fun q => absurd hl q)⟩
    · refine lt_br cr.1 iI_20 (by omega) (by omega) (fun hb => ?_) (fun hb => ?_)
      · obtain ⟨k, hk⟩ : ∃ k : Nat, T i 21 0 = (k : Int) := ⟨(T i 21 0).toNat, by omega⟩
        obtain ⟨N, hN⟩ : ∃ N : Nat, T i 13 0 = (N : Int) := ⟨(T i 13 0).toNat, by omega⟩
        have hne : T i 17 0 ≤ 24 * (N : Int) ∧ 0 ≤ T i 17 0 := by
          rcases Nat.eq_zero_or_pos N with q | q
          · have := w4 (by omega)
            omega
          · have := w6 (N - 1) (by omega)
            rw [if_neg (by omega)] at this
            have : clT (T i) ≤ 24 := by
              unfold clT
              split <;> omega
            omega
        intro A1 a1 A2 a2
        have b5 : A1 (tb i) 5 = iI N := by rw [a1, mu_miss (Or.inr (by decide)), cr.1, hN]
        have b5' : A2 (tb i) 5 = iI (N + 1) := by rw [a2, mu_hit ⟨rfl, rfl⟩, b5, iI_1, iI_add]
        have b7 : A2 (tb i) 7 = iI k := by rw [a2, a1, mu_miss (Or.inr (by decide)), mu_miss (Or.inr (by decide)), ci.1, hk]
        unfold wp_X5_putItem
        rw [b7, b5', nat_ok rfl (by omega), show iI ((N : Int) + 1) - (1 : Int32) = iI N by rw [iI_1, iI_sub]; congr 1; omega]
        refine ⟨in_ok rfl (by omega) (by omega), fun A3 a3 A4 a4 => ?_⟩
        have b7' : A3 (tb i) 7 = iI k := by rw [a3, mu_miss (Or.inl (by omega)), b7]
        have hcf3 : CF (tb i) I L A4 L := by rw [a4, a3, a2, a1]; exact (((CF.rf.mu (by omega)).mu (by omega)).mu (by omega)).mu (by omega)
        have r5 : A4 (tb i) 5 = iI (N + 1) := by rw [a4, a3, mu_miss (Or.inr (by decide)), mu_miss (Or.inl (by omega)), b5']
        dsimp only
        rw [r5, show iI ((N : Int) + 1) - (1 : Int32) = iI N by rw [iI_1, iI_sub]; congr 1; omega]
        unfold wp_X7_row
        intro J e1
        obtain ⟨hJ, mJ, cJ⟩ := h.mst hi hcf3 e1
        refine k_isT cJ hn (by omega) (fun q => absurd ⟨by omega, by omega⟩ q) (fun _ => br_n (by decide) ?_)
        rw [ei]
        refine ⟨vi, eq_br hJ.i3 iI_0 (by omega) (by omega) (fun q => absurd q hl) (fun _ => ⟨vi, eq_br hJ.i14 iI_0 (by omega) (by omega) (fun _ => ⟨vi, eq_br hJ.i13 iI_20 (by omega) (by omega) (fun q => absurd q (by omega)) (fun _ => ⟨vi, fun J2 e2 => ?_⟩)⟩) (fun q => absurd ho q)⟩)⟩
        have hJ2 : RM (upT (T i) 14 0 1) m i J2 L := by rw [e2]; exact hJ.set 14 0 i 1 rfl (by decide) (by simp [wid]) rfl
        have mJ2 : MF m i A4 L J2 L := by rw [e2]; exact mJ.mu 14 0 (by omega) (by decide) (by simp [wid])
        have x20 : (20 : Int32) * iI i + iI (N : Int) = iI ((20 * i + N : Nat) : Int) := ix_ok 20 i N
        have v20 : vp_in (iI ((20 * i + N : Nat) : Int)) 120 := in_ok rfl (by omega) (by omega)
        have n20 : (iI ((20 * i + N : Nat) : Int)).toNatClampNeg = 20 * i + N := nat_ok rfl (by omega)
        have r13 : J2 (m + 13) i = iI N := by rw [hJ2.i13, upT_miss (Or.inl (by decide)), hN]
        have r17 : J2 (m + 17) i = iI (T i 17 0) := by rw [hJ2.i17, upT_miss (Or.inl (by decide))]
        rw [r13, r17, x20, n20]
        refine ⟨vi, vi, v20, fun J3 e3 => ⟨vi, ?_⟩⟩
        have hJ3 : RM (upT (upT (T i) 14 0 1) 15 N (T i 17 0)) m i J3 L := by rw [e3]; exact hJ2.set 15 N _ _ rfl (show N < 20 by omega) rfl rfl
        have mJ3 : MF m i A4 L J3 L := by rw [e3]; exact mJ2.mu 15 N (by omega) (show N < 20 by omega) rfl
        have s13 : J3 (m + 13) i = iI N := by rw [hJ3.i13, upT_miss (Or.inl (by decide)), upT_miss (Or.inl (by decide)), hN]
        rw [s13, x20, n20]
        refine ⟨v20, fun J4 e4 => ⟨vi, ?_⟩⟩
        have hJ4 : RM (upT (upT (upT (T i) 14 0 1) 15 N (T i 17 0)) 16 N 0) m i J4 L := by rw [e4]; exact hJ3.set 16 N _ _ rfl (show N < 20 by omega) rfl rfl
        have mJ4 : MF m i A4 L J4 L := by rw [e4]; exact mJ3.mu 16 N (by omega) (show N < 20 by omega) rfl
        have t13 : J4 (m + 13) i = iI N := by rw [hJ4.i13, upT_miss (Or.inl (by decide)), upT_miss (Or.inl (by decide)), upT_miss (Or.inl (by decide)), hN]
        rw [t13]
        refine k_stand hJ4 (by omega) (k := k) (by rw [upT_miss (Or.inl (by decide)), upT_miss (Or.inl (by decide)), upT_miss (Or.inl (by decide)), hk]) (by omega) rfl (fun J5 mJ5 hJ5 => ⟨vi, vi, fun J6 e6 => ⟨vi, ?_⟩⟩)
        have u13 : J5 (m + 13) i = iI N := by rw [hJ5.i13, upT_miss (Or.inl (by decide)), upT_miss (Or.inl (by decide)), upT_miss (Or.inl (by decide)), upT_miss (Or.inl (by decide)), upT_miss (Or.inl (by decide)), hN]
        have v13 : J6 (m + 13) i = iI (N + 1) := by rw [e6, mu_hit ⟨rfl, rfl⟩, u13, iI_1, iI_add]
        refine ⟨by rw [v13, iI_1, iI_sub]; congr 1; omega, ?_⟩
        have hJ6 : RM (upT (upT (upT (upT (upT (upT (T i) 14 0 1) 15 N (T i 17 0)) 16 N 0) 22 k N) 21 0 (k + 1)) 13 0 (N + 1)) m i J6 L := by
          rw [e6, u13, iI_1, iI_add]
          exact hJ5.set 13 0 i _ rfl (by decide) (by simp [wid]) rfl
        have hU : ∃ U : TS, U = upT (upT (upT (upT (upT (upT (T i) 14 0 1) 15 N (T i 17 0)) 16 N 0) 22 k N) 21 0 (k + 1)) 13 0 (N + 1) := ⟨_, rfl⟩
        obtain ⟨U, hU⟩ := hU
        rw [← hU] at hJ6
        have U13 : U 13 0 = N + 1 := by rw [hU]; simp (disch := omega) only [mu_hit, mu_miss, upT_hit, upT_miss]
        have U14 : U 14 0 = 1 := by rw [hU]; simp (disch := omega) only [mu_hit, mu_miss, upT_hit, upT_miss]
        have U15 : U 15 N = T i 17 0 := by rw [hU]; simp (disch := omega) only [mu_hit, mu_miss, upT_hit, upT_miss]
        have U16 : U 16 N = 0 := by rw [hU]; simp (disch := omega) only [mu_hit, mu_miss, upT_hit, upT_miss]
        have U21 : U 21 0 = k + 1 := by rw [hU]; simp (disch := omega) only [mu_hit, mu_miss, upT_hit, upT_miss]
        have U22 : U 22 k = N := by rw [hU]; simp (disch := omega) only [mu_hit, mu_miss, upT_hit, upT_miss]
        have V15 : ∀ r, r ≠ N → U 15 r = T i 15 r := fun r hr => by rw [hU]; simp (disch := omega) only [mu_hit, mu_miss, upT_hit, upT_miss]
        have V16 : ∀ r, r ≠ N → U 16 r = T i 16 r := fun r hr => by rw [hU]; simp (disch := omega) only [mu_hit, mu_miss, upT_hit, upT_miss]
        have V22 : ∀ r, r ≠ k → U 22 r = T i 22 r := fun r hr => by rw [hU]; simp (disch := omega) only [mu_hit, mu_miss, upT_hit, upT_miss]
        have V : ∀ f, f ≠ 13 → f ≠ 14 → f ≠ 15 → f ≠ 16 → f ≠ 21 → f ≠ 22 → U f = T i f := fun f h1 h2 h3 h4 h5 h6 => by rw [hU]; exact (upT_fn (by omega)).trans ((upT_fn (by omega)).trans ((upT_fn (by omega)).trans ((upT_fn (by omega)).trans ((upT_fn (by omega)).trans (upT_fn (by omega))))))
        have V18 := V 18 (by decide) (by decide) (by decide) (by decide) (by decide) (by decide)
        have V19 := V 19 (by decide) (by decide) (by decide) (by decide) (by decide) (by decide)
        have V20 := V 20 (by decide) (by decide) (by decide) (by decide) (by decide) (by decide)
        have V17 := V 17 (by decide) (by decide) (by decide) (by decide) (by decide) (by decide)
        have V4 := V 4 (by decide) (by decide) (by decide) (by decide) (by decide) (by decide)
        have V5 := V 5 (by decide) (by decide) (by decide) (by decide) (by decide) (by decide)
        have V3 := V 3 (by decide) (by decide) (by decide) (by decide) (by decide) (by decide)
        have V23 := V 23 (by decide) (by decide) (by decide) (by decide) (by decide) (by decide)
        have En : ∀ r, r ≠ N → enT U r = enT (T i) r := fun r hr => by unfold enT; rw [V15 r hr, V16 r hr, V19, V20]
        have EN : enT U N = 0 := by unfold enT; rw [if_pos U16]
        have Cl : clT U = clT (T i) := by unfold clT; rw [V4, V5]
        refine h.step hi U hcf3 ?_ ((mJ4.tr mJ5).tr ?_) hJ6 ?_
        · rw [a4, b7', a3, a2, b5, a1]
          refine ⟨cp.cong (fun f _ _ => V f (by omega) (by omega) (by omega) (by omega) (by omega) (by omega)) (fun a _ _ => ?_), cg.cong (fun f _ _ => V f (by omega) (by omega) (by omega) (by omega) (by omega) (by omega)) (fun a _ _ => ?_), ⟨?_, ?_, fun r hr h20 => ?_, fun r hr h20 => ?_⟩, ⟨?_, ?_, fun k' hk' => ?_⟩, cn.cong (fun f _ _ => V f (by omega) (by omega) (by omega) (by omega) (by omega) (by omega)) (fun a _ _ => ?_) (fun _ _ _ => rfl)⟩
          · rw [mu_off (by omega), mu_off (by omega), mu_off (by omega), mu_off (by omega)]
          · rw [mu_off (by omega), mu_off (by omega), mu_off (by omega), mu_off (by omega)]
          · rw [U13]
            simp (disch := omega) only [mu_hit, mu_miss, upT_hit, upT_miss]
            rw [iI_1, iI_add]
          · rw [U14]
            simp (disch := omega) only [mu_hit, mu_miss, upT_hit, upT_miss]
            rfl
          · rw [mu_off (show tb i + 54 + 4 * r ≠ tb i by omega), mu_off (by omega), mu_off (by omega), mu_off (by omega), mu_off (show tb i + 54 + 4 * r + 1 ≠ tb i by omega), mu_off (by omega), mu_off (by omega), mu_off (by omega), mu_off (show tb i + 54 + 4 * r + 2 ≠ tb i by omega), mu_off (by omega), mu_off (by omega), mu_off (by omega), mu_off (show tb i + 54 + 4 * r + 3 ≠ tb i by omega), mu_off (by omega), mu_off (by omega), mu_off (by omega)]
            rw [V18, V19, V20]
            by_cases e : r = N
            · rw [e, U16, EN]
              have := cr.2.2.2 N (by omega) (by omega)
              exact ⟨this.1, this.2, fun j hj => absurd hj (by omega)⟩
            · rw [V16 r e, V15 r e, En r e]
              exact cr.2.2.1 r (by omega) h20
          · rw [mu_off (by omega), mu_off (by omega), mu_off (by omega), mu_off (by omega)]
            exact cr.2.2.2 r (by omega) h20
          · rw [U21]
            simp (disch := omega) only [mu_hit, mu_miss, upT_hit, upT_miss]
            rw [iI_1, iI_add]
          · rw [V23]
            simp (disch := omega) only [mu_hit, mu_miss, upT_hit, upT_miss]
            exact ci.2.1
          · rw [U21] at hk'
            by_cases e : k' = k
            · rw [e, U22]
              simp (disch := omega) only [mu_hit, mu_miss, upT_hit, upT_miss]
            · rw [V22 k' e]
              simp (disch := omega) only [mu_hit, mu_miss, upT_hit, upT_miss]
              exact ci.2.2 k' (by omega)
          · rw [mu_off (by omega), mu_off (by omega), mu_off (by omega), mu_off (by omega)]
        · rw [e6]
          exact MF.rf.mu 13 0 (by omega) (by decide) (by simp [wid])
        · refine ⟨oP.cong (fun f _ _ => V f (by omega) (by omega) (by omega) (by omega) (by omega) (by omega)), oG.cong (fun f _ _ => V f (by omega) (by omega) (by omega) (by omega) (by omega) (by omega)), ?_, ?_, oN.cong (fun f _ _ => V f (by omega) (by omega) (by omega) (by omega) (by omega) (by omega))⟩
          · refine ⟨by omega, Or.inr ⟨U14, by omega⟩, fun q => absurd q (by rw [V3]; omega), fun q => absurd q (by omega), fun _ => ?_, fun r hr => ?_⟩
            · by_cases e : (0 : Nat) = N
              · subst e
                rw [U15]
                exact w4 hN
              · rw [V15 0 e]
                exact w5 (by omega)
            · rw [V18, V19, V20, Cl]
              by_cases e : r = N
              · rw [e, U15, U16, EN, if_neg (by omega), V17]
                refine ⟨by omega, by omega, by omega, by omega, ?_, by omega, fun j hj => absurd hj (by omega)⟩
                unfold clT
                split <;> omega
              · have R := w6 r (by omega)
                rw [V15 r e, V16 r e, En r e]
                refine ⟨R.1, R.2.1, R.2.2.1, R.2.2.2.1, R.2.2.2.2.1, ?_, R.2.2.2.2.2.2⟩
                have R6 := R.2.2.2.2.2.1
                rw [if_pos (by omega)]
                by_cases e2 : r + 1 = N
                · rw [e2, U15]
                  rw [if_neg (by omega)] at R6
                  exact R6
                · rw [V15 (r + 1) e2]
                  rw [if_pos (by omega)] at R6
                  exact R6
          · unfold OkI
            rw [V23, U21, U13]
            omega
      · unfold wp_X7_row
        intro J e1; obtain ⟨hJ, mJ, cJ⟩ := h.mst hi hcf e1; refine k_isT cJ hn (by omega) (fun q => absurd ⟨by omega, by omega⟩ q) (fun _ => br_n (by decide) ?_)
        rw [ei]
        exact ⟨vi, eq_br hJ.i3 iI_0 (by omega) (by omega) (fun q => absurd q hl) (fun _ => ⟨vi, eq_br hJ.i14 iI_0 (by omega) (by omega) (fun _ => ⟨vi, eq_br hJ.i13 iI_20 (by omega) (by omega) (fun _ => ⟨rfl, fin _ e1⟩) (fun q => absurd (by omega) q)⟩) (fun q => absurd ho q)⟩)⟩
    · unfold wp_X7_row
      intro J e1; obtain ⟨hJ, mJ, cJ⟩ := h.mst hi hcf e1; refine k_isT cJ hn (by omega) (fun q => absurd ⟨by omega, by omega⟩ q) (fun _ => br_n (by decide) ?_)
      rw [ei]
      exact ⟨vi, eq_br hJ.i3 iI_0 (by omega) (by omega) (fun q => absurd q hl) (fun _ => ⟨vi, eq_br hJ.i14 iI_0 (by omega) (by omega) (fun q => absurd q ho) (fun _ => ⟨rfl, fin _ e1⟩)⟩)⟩
end OP5
