section OP2
variable {K : Nat} {G : GX} {x m o n : Nat} {Sh : SH} {F : Nat → Option Nat} {I I1 I2 : MI} {L L1 L2 : ML} {tb : Nat → Nat} {T : Nat → TS}
theorem Inv.atO (h : Inv K G x m o Sh F I L n tb T) (k : Nat) (v : Int64) : Inv K G x m o Sh F I (mul L o k v) n tb T := by
  have hn := h.1.2.2.1; have hxm := h.1.1; have hmo := h.1.2.1
  refine ⟨h.1, h.2.1, h.2.2.1, h.2.2.2.1, fun i hi => ?_, fun i h1 h2 => (h.2.2.2.2.2 i h1 h2).outL (by omega)⟩
  have := h.1.2.2.2.1 i hi
  obtain ⟨a, b, c⟩ := h.2.2.2.2.1 i hi
  exact ⟨a.keep (fun _ _ _ => rfl) (fun q _ _ => mul_off (by omega)), b.outL (by omega), c⟩
theorem k_hasCol {U : TS} {t : Nat} {z : Int} {Q : Int32 → MI → ML → Prop} (cn : RCn U t I L) (oN : OkN K U) (hz : -2147483648 ≤ z ∧ z < 2147483648) (k0 : ¬ (0 ≤ z ∧ z < U 25 0) → Q 0 I L) (k1 : 0 ≤ z ∧ z < U 25 0 → Q 1 I L) : wp_X1_hasColumn G Sh (t + 8) (iI z) I L Q := by
  unfold wp_X1_hasColumn
  have h25 := oN.2.2.1
  refine k_isIn rfl iI_0 (show _ = iI (U 25 0 - 1) by rw [cn.2.1, iI_1, iI_sub]) hz (by omega) (by omega) (fun q => ⟨by decide, k0 (by omega)⟩) (fun q => ⟨by decide, k1 (by omega)⟩)
theorem k_isCol {U : TS} {i : Nat} {z : Int} {Q : Int32 → MI → ML → Prop} (hM : RM U m i I L) (cM : I m 1 = iI n) (hi : i < n) (hn : n ≤ 6) (oN : OkN K U) (hK : K ≤ 1000) (hz : -2147483648 ≤ z ∧ z < 2147483648) (k0 : ¬ (0 ≤ z ∧ z < U 25 0) → Q 0 I L) (k1 : 0 ≤ z ∧ z < U 25 0 → Q 1 I L) : wp_X7_isColumn G Sh m (iI i) (iI z) I L Q := by
  unfold wp_X7_isColumn
  have h25 := oN.2.2.1
  have h24 := oN.1
  have h0 := oN.2.1
  refine k_isT cM hn (by omega) (fun q => absurd ⟨by omega, by omega⟩ q) (fun _ => br_n (by decide) ?_)
  simp (disch := omega) only [iI_0, iI_1, iI_2, iI_3, iI_4, iI_5, iI_6, iI_7, iI_8, iI_9, iI_10, iI_11, iI_12, iI_13, iI_20, iI_24, iI_35, iI_38, iI_40, iI_97, iI_122, iI_480, iI_10000, iI_100000, iI_1000000, jI_0, jI_1, jI_2, jI_3, jI_8, jI_10000, jI_100000, jI_1000000, iI_add, iI_sub, iI_mul, iI_neg, jI_add, jI_sub, jI_mul, jI_neg, iI_long, iI_in, iI_nat, iI_lt, iI_le, iI_eq, jI_lt, jI_le, jI_eq, lg0_lt, lg0_le, lg0_gt, lg0_ge, lg0_eq, true_and, tn_cast, tn_add, tn_sub, tn_mul, tn_lit, hM.i24, hM.i25]
  exact ⟨by omega, fun q => k0 (by omega), fun q => ⟨fun q => k0 (by omega), fun q => ⟨by omega, fun q => k0 (by omega), fun q => k1 (by omega)⟩⟩⟩
theorem k_isColN {z z2 : Int} {Q : Int32 → MI → ML → Prop} (cM : I m 1 = iI n) (hn : n ≤ 6) (hz : -2147483648 ≤ z ∧ z < 2147483648) (h0 : ¬ (0 ≤ z ∧ z < n)) (k0 : Q 0 I L) : wp_X7_isColumn G Sh m (iI z) (iI z2) I L Q := by
  unfold wp_X7_isColumn
  exact k_isT cM hn hz (fun _ => br_y rfl k0) (fun q => absurd q h0)
theorem s_width (h : Inv K G x m o Sh F I L n tb T) (hK : K ≤ 1000) : lawS_width G x m o (Rel (K + 1) G x m o) Sh F I L := by
  have hn := h.1.2.2.1; have hxm := h.1.1; have hmo := h.1.2.1
  unfold lawS_width
  intro q1 q2
  obtain ⟨z, hz, rfl⟩ := iI_of q1
  obtain ⟨z2, hz2, rfl⟩ := iI_of q2
  unfold wp_X6_width wp_X7_width
  refine k_find h hz (fun hz0 => Or.inl ⟨rfl, ?_⟩) (fun i hi e => Or.inr ⟨tb i, rfl, (h.2.2.1 i hi).2, ?_⟩)
  · intro J e1
    exact k_isColN (by rw [e1, mu_miss (Or.inr (by omega))]; exact h.2.2.2.1.2) hn hz hz0 (br_y rfl ⟨rfl, by rw [e1]; exact h.fault _⟩)
  · subst e; have hti := h.1.2.2.2.1 i hi; obtain ⟨⟨cp, cg, cr, ci, cn⟩, hM, oP, oG, oR, oI, oN⟩ := h.2.2.2.2.1 i hi
    have hcf : CF (tb i) I L I L := CF.rf
    refine k_hasCol cn oN hz2 (fun hc => br_y rfl ?_) (fun hc => br_n (by decide) ?_)
    · intro J e1
      obtain ⟨hJ, mJ, cJ⟩ := h.mst hi hcf e1
      exact k_isCol hJ cJ hi hn oN hK hz2 (fun _ => br_y rfl ⟨rfl, by rw [e1]; exact h.fault _⟩) (fun q => absurd q hc)
    · obtain ⟨c, rfl⟩ : ∃ c : Nat, z2 = (c : Int) := ⟨z2.toNat, by omega⟩
      have h25 := oN.2.2.1
      simp (disch := omega) only [iI_0, iI_1, iI_2, iI_3, iI_4, iI_5, iI_6, iI_7, iI_8, iI_9, iI_10, iI_11, iI_12, iI_13, iI_20, iI_24, iI_35, iI_38, iI_40, iI_97, iI_122, iI_480, iI_10000, iI_100000, iI_1000000, jI_0, jI_1, jI_2, jI_3, jI_8, jI_10000, jI_100000, jI_1000000, iI_add, iI_sub, iI_mul, iI_neg, jI_add, jI_sub, jI_mul, jI_neg, iI_long, iI_in, iI_nat, iI_lt, iI_le, iI_eq, jI_lt, jI_le, jI_eq, lg0_lt, lg0_le, lg0_gt, lg0_ge, lg0_eq, true_and, tn_cast, tn_add, tn_sub, tn_mul, tn_lit]
      refine ⟨by omega, ?_⟩
      rw [(cn.2.2.1 c (by omega)).1]
      intro J e1
      obtain ⟨hJ, mJ, cJ⟩ := h.mst hi hcf e1
      refine k_isCol hJ cJ hi hn oN hK hz2 (fun q => absurd hc q) (fun _ => br_n (by decide) ?_)
      intro x6 e6
      rw [e6]
      simp (disch := omega) only [iI_0, iI_1, iI_2, iI_3, iI_4, iI_5, iI_6, iI_7, iI_8, iI_9, iI_10, iI_11, iI_12, iI_13, iI_20, iI_24, iI_35, iI_38, iI_40, iI_97, iI_122, iI_480, iI_10000, iI_100000, iI_1000000, jI_0, jI_1, jI_2, jI_3, jI_8, jI_10000, jI_100000, jI_1000000, iI_add, iI_sub, iI_mul, iI_neg, jI_add, jI_sub, jI_mul, jI_neg, iI_long, iI_in, iI_nat, iI_lt, iI_le, iI_eq, jI_lt, jI_le, jI_eq, lg0_lt, lg0_le, lg0_gt, lg0_ge, lg0_eq, true_and, tn_cast, tn_add, tn_sub, tn_mul, tn_lit, hJ.i26]
      exact ⟨by omega, by rw [e1]; exact h.fault _⟩
theorem s_isVoid (h : Inv K G x m o Sh F I L n tb T) (hK : K ≤ 1000) : lawS_isVoid G x m o (Rel (K + 1) G x m o) Sh F I L := by
  have hn := h.1.2.2.1; have hxm := h.1.1; have hmo := h.1.2.1
  unfold lawS_isVoid
  intro q1 q2
  obtain ⟨z, hz, rfl⟩ := iI_of q1
  obtain ⟨z2, hz2, rfl⟩ := iI_of q2
  unfold wp_X6_isVoid wp_X7_isVoid
  refine k_find h hz (fun hz0 => Or.inl ⟨rfl, ?_⟩) (fun i hi e => Or.inr ⟨tb i, rfl, (h.2.2.1 i hi).2, ?_⟩)
  · intro J e1
    exact k_isColN (by rw [e1, mu_miss (Or.inr (by omega))]; exact h.2.2.2.1.2) hn hz hz0 (br_y rfl ⟨rfl, by rw [e1]; exact h.fault _⟩)
  · subst e; have hti := h.1.2.2.2.1 i hi; obtain ⟨⟨cp, cg, cr, ci, cn⟩, hM, oP, oG, oR, oI, oN⟩ := h.2.2.2.2.1 i hi
    have hcf : CF (tb i) I L I L := CF.rf
    refine k_hasCol cn oN hz2 (fun hc => br_y rfl ?_) (fun hc => br_n (by decide) ?_)
    · intro J e1
      obtain ⟨hJ, mJ, cJ⟩ := h.mst hi hcf e1
      exact k_isCol hJ cJ hi hn oN hK hz2 (fun _ => br_y rfl ⟨rfl, by rw [e1]; exact h.fault _⟩) (fun q => absurd q hc)
    · obtain ⟨c, rfl⟩ : ∃ c : Nat, z2 = (c : Int) := ⟨z2.toNat, by omega⟩
      have h25 := oN.2.2.1
      have h27 := (oN.2.2.2.1 c (by omega)).2.2
      simp (disch := omega) only [iI_0, iI_1, iI_2, iI_3, iI_4, iI_5, iI_6, iI_7, iI_8, iI_9, iI_10, iI_11, iI_12, iI_13, iI_20, iI_24, iI_35, iI_38, iI_40, iI_97, iI_122, iI_480, iI_10000, iI_100000, iI_1000000, jI_0, jI_1, jI_2, jI_3, jI_8, jI_10000, jI_100000, jI_1000000, iI_add, iI_sub, iI_mul, iI_neg, jI_add, jI_sub, jI_mul, jI_neg, iI_long, iI_in, iI_nat, iI_lt, iI_le, iI_eq, jI_lt, jI_le, jI_eq, lg0_lt, lg0_le, lg0_gt, lg0_ge, lg0_eq, true_and, tn_cast, tn_add, tn_sub, tn_mul, tn_lit, (cn.2.2.1 c (by omega)).2.1]
      refine ⟨by omega, fun hv => ?_, fun hv => ?_⟩
      · intro J e1
        obtain ⟨hJ, mJ, cJ⟩ := h.mst hi hcf e1
        refine k_isCol hJ cJ hi hn oN hK hz2 (fun q => absurd hc q) (fun _ => br_n (by decide) ?_)
        intro x6 e6
        rw [e6]
        simp (disch := omega) only [iI_0, iI_1, iI_2, iI_3, iI_4, iI_5, iI_6, iI_7, iI_8, iI_9, iI_10, iI_11, iI_12, iI_13, iI_20, iI_24, iI_35, iI_38, iI_40, iI_97, iI_122, iI_480, iI_10000, iI_100000, iI_1000000, jI_0, jI_1, jI_2, jI_3, jI_8, jI_10000, jI_100000, jI_1000000, iI_add, iI_sub, iI_mul, iI_neg, jI_add, jI_sub, jI_mul, jI_neg, iI_long, iI_in, iI_nat, iI_lt, iI_le, iI_eq, jI_lt, jI_le, jI_eq, lg0_lt, lg0_le, lg0_gt, lg0_ge, lg0_eq, true_and, tn_cast, tn_add, tn_sub, tn_mul, tn_lit, hJ.i27]
        exact ⟨by omega, br_y hv (by rw [e1]; exact h.fault _)⟩
      · intro J e1
        obtain ⟨hJ, mJ, cJ⟩ := h.mst hi hcf e1
        refine k_isCol hJ cJ hi hn oN hK hz2 (fun q => absurd hc q) (fun _ => br_n (by decide) ?_)
        intro x6 e6
        rw [e6]
        simp (disch := omega) only [iI_0, iI_1, iI_2, iI_3, iI_4, iI_5, iI_6, iI_7, iI_8, iI_9, iI_10, iI_11, iI_12, iI_13, iI_20, iI_24, iI_35, iI_38, iI_40, iI_97, iI_122, iI_480, iI_10000, iI_100000, iI_1000000, jI_0, jI_1, jI_2, jI_3, jI_8, jI_10000, jI_100000, jI_1000000, iI_add, iI_sub, iI_mul, iI_neg, jI_add, jI_sub, jI_mul, jI_neg, iI_long, iI_in, iI_nat, iI_lt, iI_le, iI_eq, jI_lt, jI_le, jI_eq, lg0_lt, lg0_le, lg0_gt, lg0_ge, lg0_eq, true_and, tn_cast, tn_add, tn_sub, tn_mul, tn_lit, hJ.i27]
        exact ⟨by omega, br_n hv (by rw [e1]; exact h.fault _)⟩
theorem s_place (h : Inv K G x m o Sh F I L n tb T) (hK : K ≤ 1000) : lawS_place G x m o (Rel (K + 1) G x m o) Sh F I L := by
  have hn := h.1.2.2.1; have hxm := h.1.1; have hmo := h.1.2.1
  unfold lawS_place lawK_place
  intro q1 q2
  obtain ⟨z, hz, rfl⟩ := iI_of q1
  obtain ⟨z2, hz2, rfl⟩ := iI_of q2
  unfold wp_X6_place wp_X7_place wp_X7_place_15 wp_X7_thrown
  refine k_find h hz (fun hz0 => Or.inl ⟨rfl, ?_⟩) (fun i hi e => Or.inr ⟨tb i, rfl, (h.2.2.1 i hi).2, ?_⟩)
  · refine k_isColN h.2.2.2.1.2 hn hz hz0 (br_y rfl ?_)
    intro J e1
    rw [e1, mu_hit ⟨rfl, rfl⟩]
    exact br_n (by decide) ⟨mu_hit ⟨rfl, rfl⟩, fun q => absurd q (by decide), h.fault _⟩
  · subst e; have hti := h.1.2.2.2.1 i hi; obtain ⟨⟨cp, cg, cr, ci, cn⟩, hM, oP, oG, oR, oI, oN⟩ := h.2.2.2.2.1 i hi
    refine k_hasCol cn oN hz2 (fun hc => br_y rfl ?_) (fun hc => br_n (by decide) ?_)
    · refine k_isCol hM h.2.2.2.1.2 hi hn oN hK hz2 (fun _ => br_y rfl ?_) (fun q => absurd q hc)
      intro J e1
      rw [e1, mu_hit ⟨rfl, rfl⟩]
      exact br_n (by decide) ⟨mu_hit ⟨rfl, rfl⟩, fun q => absurd q (by decide), h.fault _⟩
    · obtain ⟨c, rfl⟩ : ∃ c : Nat, z2 = (c : Int) := ⟨z2.toNat, by omega⟩
      have h25 := oN.2.2.1
      simp (disch := omega) only [iI_0, iI_1, iI_2, iI_3, iI_4, iI_5, iI_6, iI_7, iI_8, iI_9, iI_10, iI_11, iI_12, iI_13, iI_20, iI_24, iI_35, iI_38, iI_40, iI_97, iI_122, iI_480, iI_10000, iI_100000, iI_1000000, jI_0, jI_1, jI_2, jI_3, jI_8, jI_10000, jI_100000, jI_1000000, iI_add, iI_sub, iI_mul, iI_neg, jI_add, jI_sub, jI_mul, jI_neg, iI_long, iI_in, iI_nat, iI_lt, iI_le, iI_eq, jI_lt, jI_le, jI_eq, lg0_lt, lg0_le, lg0_gt, lg0_ge, lg0_eq, true_and, tn_cast, tn_add, tn_sub, tn_mul, tn_lit]
      refine ⟨by omega, ?_⟩
      rw [(cn.2.2.1 c (by omega)).2.2]
      intro L2 e2
      have h' : Inv K G x m o Sh F I L2 n tb T := by rw [e2]; exact h.atO _ _
      obtain ⟨-, hM', -⟩ := h'.2.2.2.2.1 i hi
      refine k_isCol hM' h'.2.2.2.1.2 hi hn oN hK hz2 (fun q => absurd hc q) (fun _ => br_n (by decide) ?_)
      intro J e1
      rw [e1, mu_hit ⟨rfl, rfl⟩]
      refine br_y rfl (fun x7 e7 => ?_)
      rw [e7]
      simp (disch := omega) only [iI_0, iI_1, iI_2, iI_3, iI_4, iI_5, iI_6, iI_7, iI_8, iI_9, iI_10, iI_11, iI_12, iI_13, iI_20, iI_24, iI_35, iI_38, iI_40, iI_97, iI_122, iI_480, iI_10000, iI_100000, iI_1000000, jI_0, jI_1, jI_2, jI_3, jI_8, jI_10000, jI_100000, jI_1000000, iI_add, iI_sub, iI_mul, iI_neg, jI_add, jI_sub, jI_mul, jI_neg, iI_long, iI_in, iI_nat, iI_lt, iI_le, iI_eq, jI_lt, jI_le, jI_eq, lg0_lt, lg0_le, lg0_gt, lg0_ge, lg0_eq, true_and, tn_cast, tn_add, tn_sub, tn_mul, tn_lit, hM'.i28]
      exact ⟨by omega, fun _ => by rw [e2, mul_hit ⟨rfl, rfl⟩], h'.fault _⟩
theorem s_item (h : Inv K G x m o Sh F I L n tb T) : lawS_item G x m o (Rel (K + 1) G x m o) Sh F I L := by
  have hn := h.1.2.2.1; have hxm := h.1.1; have hmo := h.1.2.1
  unfold lawS_item lawK_item
  intro q1 q2
  obtain ⟨z, hz, rfl⟩ := iI_of q1
  obtain ⟨z2, hz2, rfl⟩ := iI_of q2
  unfold wp_X6_item wp_X7_item wp_X7_item_28 wp_X7_thrown
  refine k_find h hz (fun hz0 => Or.inl ⟨rfl, ?_⟩) (fun i hi e => Or.inr ⟨tb i, rfl, (h.2.2.1 i hi).2, ?_⟩)
  · refine k_isT h.2.2.2.1.2 hn hz (fun _ => br_y rfl ?_) (fun q => absurd q hz0)
    intro J e1
    rw [e1, mu_hit ⟨rfl, rfl⟩]
    exact br_n (by decide) ⟨mu_hit ⟨rfl, rfl⟩, fun q => absurd q (by decide), h.fault _⟩
  · subst e; have hti := h.1.2.2.2.1 i hi; obtain ⟨⟨cp, cg, cr, ci, cn⟩, hM, oP, oG, oR, oI, oN⟩ := h.2.2.2.2.1 i hi
    obtain ⟨y1, y2, y3⟩ := id oI
    have w1 := oR.1
    refine k_isIn rfl iI_0 (show _ = iI (T i 21 0 - 1) by rw [ci.1, iI_1, iI_sub]) hz2 (by omega) (by omega) (fun hc => br_y rfl ?_) (fun hc => br_n (by decide) ?_)
    · refine k_isT h.2.2.2.1.2 hn (by omega) (fun q => absurd ⟨by omega, by omega⟩ q) (fun _ => br_n (by decide) ?_)
      simp (disch := omega) only [iI_0, iI_1, iI_2, iI_3, iI_4, iI_5, iI_6, iI_7, iI_8, iI_9, iI_10, iI_11, iI_12, iI_13, iI_20, iI_24, iI_35, iI_38, iI_40, iI_97, iI_122, iI_480, iI_10000, iI_100000, iI_1000000, jI_0, jI_1, jI_2, jI_3, jI_8, jI_10000, jI_100000, jI_1000000, iI_add, iI_sub, iI_mul, iI_neg, jI_add, jI_sub, jI_mul, jI_neg, iI_long, iI_in, iI_nat, iI_lt, iI_le, iI_eq, jI_lt, jI_le, jI_eq, lg0_lt, lg0_le, lg0_gt, lg0_ge, lg0_eq, true_and, tn_cast, tn_add, tn_sub, tn_mul, tn_lit, hM.i21]
      refine ⟨fun hp J e1 => ?_, fun hp => ⟨by omega, br_n (by omega) (fun J e1 => ?_)⟩⟩ <;> (rw [e1, mu_hit ⟨rfl, rfl⟩]; exact br_n (by decide) ⟨rfl, fun q => absurd q (by decide), h.fault _⟩)
    · obtain ⟨c, rfl⟩ : ∃ c : Nat, z2 = (c : Int) := ⟨z2.toNat, by omega⟩
      simp (disch := omega) only [iI_0, iI_1, iI_2, iI_3, iI_4, iI_5, iI_6, iI_7, iI_8, iI_9, iI_10, iI_11, iI_12, iI_13, iI_20, iI_24, iI_35, iI_38, iI_40, iI_97, iI_122, iI_480, iI_10000, iI_100000, iI_1000000, jI_0, jI_1, jI_2, jI_3, jI_8, jI_10000, jI_100000, jI_1000000, iI_add, iI_sub, iI_mul, iI_neg, jI_add, jI_sub, jI_mul, jI_neg, iI_long, iI_in, iI_nat, iI_lt, iI_le, iI_eq, jI_lt, jI_le, jI_eq, lg0_lt, lg0_le, lg0_gt, lg0_ge, lg0_eq, true_and, tn_cast, tn_add, tn_sub, tn_mul, tn_lit]
      refine ⟨by omega, ?_⟩
      rw [ci.2.2 c (by omega)]
      intro L2 e2
      have h' : Inv K G x m o Sh F I L2 n tb T := by rw [e2]; exact h.atO _ _
      obtain ⟨-, hM', -⟩ := h'.2.2.2.2.1 i hi
      refine k_isT h'.2.2.2.1.2 hn (by omega) (fun q => absurd ⟨by omega, by omega⟩ q) (fun _ => br_n (by decide) ?_)
      simp (disch := omega) only [iI_0, iI_1, iI_2, iI_3, iI_4, iI_5, iI_6, iI_7, iI_8, iI_9, iI_10, iI_11, iI_12, iI_13, iI_20, iI_24, iI_35, iI_38, iI_40, iI_97, iI_122, iI_480, iI_10000, iI_100000, iI_1000000, jI_0, jI_1, jI_2, jI_3, jI_8, jI_10000, jI_100000, jI_1000000, iI_add, iI_sub, iI_mul, iI_neg, jI_add, jI_sub, jI_mul, jI_neg, iI_long, iI_in, iI_nat, iI_lt, iI_le, iI_eq, jI_lt, jI_le, jI_eq, lg0_lt, lg0_le, lg0_gt, lg0_ge, lg0_eq, true_and, tn_cast, tn_add, tn_sub, tn_mul, tn_lit, hM'.i21]
      refine br_n (by omega) ⟨by omega, br_y (by omega) (fun J e1 => ?_)⟩
      rw [e1, mu_hit ⟨rfl, rfl⟩]
      refine br_y rfl (fun x7 e7 => ?_)
      rw [e7]
      simp (disch := omega) only [iI_0, iI_1, iI_2, iI_3, iI_4, iI_5, iI_6, iI_7, iI_8, iI_9, iI_10, iI_11, iI_12, iI_13, iI_20, iI_24, iI_35, iI_38, iI_40, iI_97, iI_122, iI_480, iI_10000, iI_100000, iI_1000000, jI_0, jI_1, jI_2, jI_3, jI_8, jI_10000, jI_100000, jI_1000000, iI_add, iI_sub, iI_mul, iI_neg, jI_add, jI_sub, jI_mul, jI_neg, iI_long, iI_in, iI_nat, iI_lt, iI_le, iI_eq, jI_lt, jI_le, jI_eq, lg0_lt, lg0_le, lg0_gt, lg0_ge, lg0_eq, true_and, tn_cast, tn_add, tn_sub, tn_mul, tn_lit, mu_ne, hM'.i22]
      exact ⟨by omega, fun _ => by rw [e2, mul_hit ⟨rfl, rfl⟩], h'.fault _⟩
end OP2
