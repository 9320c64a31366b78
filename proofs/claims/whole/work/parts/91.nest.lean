section OP8
variable {K : Nat} {G : GX} {x m o n : Nat} {Sh : SH} {F : Nat → Option Nat} {I I1 I2 : MI} {L L1 L2 : ML} {tb : Nat → Nat} {T : Nat → TS}
theorem jI_back (a b : Int) : jI a + jI (b - a) = jI b := by
  rw [jI_add]
  congr 1
  omega
theorem cmp_br {p q : Int64} {a b : Int} {A B : Prop} (hp : p = jI a) (hq : q = jI b) (ha : -9223372036854775808 ≤ a ∧ a < 9223372036854775808) (hb : -9223372036854775808 ≤ b ∧ b < 9223372036854775808) (k1 : a < b → A) (k0 : ¬ a < b → B) : (lg_cmp p q < 0 → A) ∧ (¬ lg_cmp p q < 0 → B) := by
  rw [hp, hq, lg_cmp_lt, jI_lt ha hb]
  exact ⟨k1, k0⟩
theorem cmpg_br {p q : Int64} {a b : Int} {A B : Prop} (hp : p = jI a) (hq : q = jI b) (ha : -9223372036854775808 ≤ a ∧ a < 9223372036854775808) (hb : -9223372036854775808 ≤ b ∧ b < 9223372036854775808) (k1 : b < a → A) (k0 : ¬ b < a → B) : (0 < lg_cmp p q → A) ∧ (¬ 0 < lg_cmp p q → B) := by
  rw [hp, hq, lg_cmp_gt, jI_lt hb ha]
  exact ⟨k1, k0⟩
theorem k_nestable {U : TS} {t : Nat} {Q : Int32 → MI → ML → Prop} (cn : RCn U t I L) (oN : OkN K U) (hK : K ≤ 1000) (k0 : ¬ (0 < U 24 0 ∧ 0 ≤ U 30 0 ∧ U 30 0 ≤ 100000) → Q 0 I L) (k1 : 0 < U 24 0 → 0 ≤ U 30 0 ∧ U 30 0 ≤ 100000 → Q 1 I L) : wp_X1_isNestable G Sh (t + 8) I L Q := by
  obtain ⟨n1, n2, n3, n4, n5, n6⟩ := oN
  have e : L (t + 8) 9 + L (t + 8) 10 = jI (U 30 0) := by rw [cn.2.2.2.1, cn.2.2.2.2.1, jI_back]
  unfold wp_X1_isNestable wp_X1_setWidth
  rw [e]
  refine le_br cn.1 iI_0 (by omega) (by omega) (fun q => k0 (by omega)) (fun q => ?_)
  refine cmp_br (a := U 30 0) rfl jI_0 (by omega) (by omega) (fun q => k0 (by omega)) (fun q => ?_)
  exact cmpg_br (a := U 30 0) e jI_100000 (by omega) (by omega) (fun q => k0 (by omega)) (fun q => k1 (by omega) (by omega))
theorem s_nest (h : Inv K G x m o Sh F I L n tb T) (hK : K ≤ 1000) : lawS_nest G x m o (Rel (K + 1) G x m o) Sh F I L := by
  have hn := h.1.2.2.1; have hxm := h.1.1; have hmo := h.1.2.1
  unfold lawS_nest
  intro q1 q2 q3
  obtain ⟨z, hz, rfl⟩ := iI_of q1
  obtain ⟨z2, hz2, rfl⟩ := iI_of q2
  obtain ⟨s, hs, rfl⟩ := iI_of q3
  have fin : ∀ J : MI, J = mu I m 0 0 → Rel (K + 1) G x m o Sh F J L := fun J e1 => by rw [e1]; exact h.fault _
  unfold wp_X6_nest
  refine k_find h hz (fun hz0 => Or.inl ⟨rfl, ?_⟩) (fun i hi e => Or.inr ⟨tb i, rfl, (h.2.2.1 i hi).2, ?_⟩)
  · have M : wp_X7_nest G Sh m (iI z) (iI z2) (iI s) I L (fun r2 I2 L2 => -1 = r2 ∧ Rel (K + 1) G x m o Sh F I2 L2) := by
      unfold wp_X7_nest
      intro J e1; refine k_isT (by rw [e1, mu_miss (Or.inr (by omega))]; exact h.2.2.2.1.2) hn hz (fun _ => br_y rfl ⟨rfl, by rw [e1]; exact h.fault _⟩) (fun q => absurd q hz0)
    exact k_find h hz2 (fun _ => Or.inl ⟨rfl, M⟩) (fun j hj e => Or.inr ⟨tb j, rfl, (h.2.2.1 j hj).2, M⟩)
  · subst e
    have hcf : CF (tb i) I L I L := CF.rf
    have hti := h.1.2.2.2.1 i hi
    refine k_find h hz2 (fun hz0 => Or.inl ⟨rfl, ?_⟩) (fun j hj e => Or.inr ⟨tb j, rfl, (h.2.2.1 j hj).2, ?_⟩)
    · unfold wp_X7_nest
      intro J e1; obtain ⟨hJ, mJ, cJ⟩ := h.mst hi hcf e1; refine k_isT cJ hn (by omega) (fun q => absurd ⟨by omega, by omega⟩ q) (fun _ => br_n (by decide) ?_)
      exact k_isT cJ hn hz2 (fun _ => br_y rfl ⟨rfl, fin _ e1⟩) (fun q => absurd q hz0)
    subst e
    obtain ⟨hC, hM, hok⟩ := h.2.2.2.2.1 i hi
    obtain ⟨cp, cg, cr, ci, cn⟩ := id hC
    obtain ⟨oP, oG, oR, oI, oN⟩ := id hok
    obtain ⟨hCj, hMj, hokj⟩ := h.2.2.2.2.1 j hj
    have cnj := hCj.2.2.2.2
    have oNj := hokj.2.2.2.2
    obtain ⟨n1, n2, n3, n4, n5, n6⟩ := id oNj
    have w2 := oR.2.1
    have vi : vp_in (iI (i : Int)) 6 := in_ok rfl (by omega) (by omega)
    have ei : (iI (i : Int)).toNatClampNeg = i := nat_ok rfl (by omega)
    have vj : vp_in (iI (j : Int)) 6 := in_ok rfl (by omega) (by omega)
    have ej : (iI (j : Int)).toNatClampNeg = j := nat_ok rfl (by omega)
    -- the model's walk up to its first test of the row
    have go : ∀ (Ic : MI) (Q : Int32 → MI → ML → Prop), CF (tb i) I L Ic L → (∀ J : MI, J = mu Ic m 0 0 → RM (T i) m i J L → MF m i Ic L J L → (i ≠ j → RM (T j) m j J L) → (T i 14 0 = 0 → Q (-3) J L) ∧ (¬ T i 14 0 = 0 → i = j → Q (-3) J L) ∧ (¬ T i 14 0 = 0 → i ≠ j → ((J (m + 24) j) = 0 → Q (-3 : Int32) J L) ∧ (¬ (J (m + 24) j) = 0 → vp_in (iI j) 6 ∧ wp_X7_in G Sh (L (m + 30) j) (0 : Int64) (100000 : Int64) J L (fun r_16 I_17 L_18 => (r_16 = 0 → Q (-3 : Int32) I_17 L_18) ∧ (¬ r_16 = 0 → wp_X7_in G Sh (Int32.toInt64 (iI s)) (1 : Int64) (8 : Int64) I_17 L_18 (fun r_20 I_21 L_22 => (r_20 = 0 → Q (-2 : Int32) I_21 L_22) ∧ (¬ r_20 = 0 → wp_X7_free G Sh m (iI i) I_21 L_22 (fun r_24 I_25 L_26 => wp_X7_columnsOf G Sh m (iI i) I_25 L_26 (fun r_27 I_28 L_29 => ((r_24 + (iI s)) ≤ r_27 → vp_in (iI j) 6 ∧ wp_X7_add G Sh m (iI i) (Int64.toInt32 (L_29 (m + 30) j)) (iI s) I_28 L_29 (fun r_32 I_33 L_34 => Q r_32 I_33 L_34)) ∧ (¬ (r_24 + (iI s)) ≤ r_27 → Q (-1 : Int32) I_28 L_29)))))))))) → wp_X7_nest G Sh m (iI i) (iI j) (iI s) Ic L Q := by
      intro Ic Q hcf hQ
      unfold wp_X7_nest
      intro J e1; obtain ⟨hJ, mJ, cJ⟩ := h.mst hi hcf e1; refine k_isT cJ hn (by omega) (fun q => absurd ⟨by omega, by omega⟩ q) (fun _ => br_n (by decide) ?_)
      refine k_isT cJ hn hz2 (fun q => absurd ⟨by omega, by omega⟩ q) (fun _ => br_n (by decide) ⟨vi, ?_⟩)
      have hJj : i ≠ j → RM (T j) m j J L := fun ne => mJ.2.2 _ _ (fun e => ne e.symm) (hMj.keep (fun f _ _ => (hcf _ (by omega)).1) (fun f _ _ => (hcf _ (by omega)).2))
      obtain ⟨k1, k2, k3⟩ := hQ J e1 hJ mJ hJj
      rw [ei, ej]
      refine eq_br hJ.i14 iI_0 (by omega) (by omega) k1 (fun ho => ?_)
      refine eq_br rfl rfl (by omega) (by omega) (fun q => k2 ho (by omega)) (fun q => ⟨vj, k3 ho (by omega)⟩)
    refine eq_br cr.2.1 iI_0 (by omega) (by omega) (fun ho => go I _ hcf (fun J e1 hJ mJ _ => ⟨fun _ => ⟨rfl, fin _ e1⟩, fun q => absurd ho q, fun q => absurd ho q⟩)) (fun ho => ?_)
    refine eq_br rfl rfl (by omega) (by omega) (fun hij => go I _ hcf (fun J e1 hJ mJ _ => ⟨fun q => absurd q ho, fun _ _ => ⟨rfl, fin _ e1⟩, fun _ q => absurd (by omega) q⟩)) (fun hij => ?_)
    have hij : i ≠ j := by omega
    refine k_nestable cnj oNj hK (fun hc => br_y rfl (go I _ hcf (fun J e1 hJ mJ hJj => ⟨fun q => absurd q ho, fun _ q => absurd q hij, fun _ _ => ?_⟩))) (fun h24 hset => br_n (by decide) ?_)
    · refine eq_br (hJj hij).i24 iI_0 (by omega) (by omega) (fun _ => ⟨rfl, fin _ e1⟩) (fun q => ⟨vj, ?_⟩)
      exact k_in (hJj hij).i30 jI_0 jI_100000 (by omega) (by omega) (by omega) (fun _ => br_y rfl ⟨rfl, fin _ e1⟩) (fun q => absurd q (by omega))
    obtain ⟨r, e, O⟩ := opR_of oP oR ho
    obtain ⟨a1, a2, a3, a4, a5, a6, a7, a8, a9, a10, a11, a12⟩ := id O
    unfold wp_X1_setWidth
    rw [show L (tb j + 8) 9 + L (tb j + 8) 10 = jI (T j 30 0) by rw [cnj.2.2.2.1, cnj.2.2.2.2.1, jI_back]]
    dsimp only
    rw [jI_int (by omega)]
    refine k_addEntry O hset hs (Or.inr rfl) hok hC (fun hb => go I _ hcf (fun J e1 hJ mJ hJj => ⟨fun q => absurd q ho, fun _ q => absurd q hij, fun _ _ => ?_⟩)) (fun hb hl => go I _ hcf (fun J e1 hJ mJ hJj => ⟨fun q => absurd q ho, fun _ q => absurd q hij, fun _ _ => ?_⟩)) (fun hb hl v J0 hv hcf0 hR0 hok0 => go J0 _ hcf0 (fun J e1 hJ mJ hJj => ⟨fun q => absurd q ho, fun _ q => absurd q hij, fun _ _ => ?_⟩))
    · refine eq_br (hJj hij).i24 iI_0 (by omega) (by omega) (fun q => absurd q (by omega)) (fun q => ⟨vj, ?_⟩)
      refine k_in (hJj hij).i30 jI_0 jI_100000 (by omega) (by omega) (by omega) (fun q => absurd hset q) (fun _ => br_n (by decide) ?_)
      exact k_in (iI_long hs) jI_1 jI_8 (by omega) (by omega) (by omega) (fun _ => br_y rfl ⟨rfl, fin _ e1⟩) (fun q => absurd q hb)
    · refine eq_br (hJj hij).i24 iI_0 (by omega) (by omega) (fun q => absurd q (by omega)) (fun q => ⟨vj, ?_⟩)
      refine k_in (hJj hij).i30 jI_0 jI_100000 (by omega) (by omega) (by omega) (fun q => absurd hset q) (fun _ => br_n (by decide) ?_)
      refine k_in (iI_long hs) jI_1 jI_8 (by omega) (by omega) (by omega) (fun q => absurd hb q) (fun _ => br_n (by decide) ?_)
      refine k_free O hJ (by omega) (k_limM hJ (by omega) oP ?_)
      exact le_br (iI_add _ _) rfl (by omega) (by omega) (fun q => absurd q hl) (fun _ => ⟨rfl, fin _ e1⟩)
    · refine eq_br (hJj hij).i24 iI_0 (by omega) (by omega) (fun q => absurd q (by omega)) (fun q => ⟨vj, ?_⟩)
      refine k_in (hJj hij).i30 jI_0 jI_100000 (by omega) (by omega) (by omega) (fun q => absurd hset q) (fun _ => br_n (by decide) ?_)
      refine k_in (iI_long hs) jI_1 jI_8 (by omega) (by omega) (by omega) (fun q => absurd hb q) (fun _ => br_n (by decide) ?_)
      refine k_free O hJ (by omega) (k_limM hJ (by omega) oP ?_)
      refine le_br (iI_add _ _) rfl (by omega) (by omega) (fun _ => ⟨vj, ?_⟩) (fun q => absurd hl q)
      rw [(hJj hij).i30, jI_int (by omega)]
      rw [if_neg (by decide)] at hv
      rw [hv, Int.add_zero] at hR0 hok0
      exact k_add O hb hl hJ (by omega) (fun J2 mJ2 hJ2 => ⟨rfl, h.step hi _ hcf0 hR0 (mJ.tr mJ2) hJ2 hok0⟩)
end OP8
