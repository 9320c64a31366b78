section OP3
variable {K : Nat} {G : GX} {x m o n : Nat} {Sh : SH} {F : Nat → Option Nat} {I I1 I2 : MI} {L L1 L2 : ML} {tb : Nat → Nat} {T : Nat → TS}
theorem mul_o (L : ML) (o : Nat) (v : Int64) : mul L o (Int32.toNatClampNeg 0) v o 0 = v := mul_hit ⟨rfl, by decide⟩
theorem mul_oe {L L2 : ML} {o : Nat} {v : Int64} (h : L2 = mul L o (Int32.toNatClampNeg 0) v) : L2 o 0 = v := by rw [h, mul_o]
theorem k_all {U : TS} {t : Nat} {Q : Int32 → MI → ML → Prop} (cr : RCr U t I) (oR : OkR U) {N : Nat} (hN : U 13 0 = N) (hQ : Q (iI (U 17 0)) I L) : ∀ (d r : Nat) (s : Int), r + d = N → (s = if (r : Int) < U 13 0 then U 15 r else U 17 0) → wp_X5_entriesOfAll_4 G Sh t Q (d + 1) (iI s) (iI r) I L := by
  have w1 := oR.1
  intro d
  induction d with
  | zero =>
    intro r s h1 h2
    show wb_X5_entriesOfAll_4 G Sh t Q _ (iI s) (iI r) I L
    unfold wb_X5_entriesOfAll_4
    rw [cr.1]
    simp (disch := omega) only [iI_0, iI_1, iI_2, iI_3, iI_4, iI_5, iI_6, iI_7, iI_8, iI_9, iI_10, iI_11, iI_12, iI_13, iI_20, iI_24, iI_35, iI_38, iI_40, iI_97, iI_122, iI_480, iI_10000, iI_100000, iI_1000000, jI_0, jI_1, jI_2, jI_3, jI_8, jI_10000, jI_100000, jI_1000000, iI_add, iI_sub, iI_mul, iI_neg, jI_add, jI_sub, jI_mul, jI_neg, iI_long, iI_in, iI_nat, iI_lt, iI_le, iI_eq, jI_lt, jI_le, jI_eq, lg0_lt, lg0_le, lg0_gt, lg0_ge, lg0_eq, true_and, tn_cast, tn_add, tn_sub, tn_mul, tn_lit]
    rw [if_neg (by omega)] at h2
    refine br_y (by omega) ?_
    rw [h2]
    exact hQ
  | succ d ih =>
    intro r s h1 h2
    show wb_X5_entriesOfAll_4 G Sh t Q (wp_X5_entriesOfAll_4 G Sh t Q (d + 1)) (iI s) (iI r) I L
    unfold wb_X5_entriesOfAll_4
    rw [cr.1]
    simp (disch := omega) only [iI_0, iI_1, iI_2, iI_3, iI_4, iI_5, iI_6, iI_7, iI_8, iI_9, iI_10, iI_11, iI_12, iI_13, iI_20, iI_24, iI_35, iI_38, iI_40, iI_97, iI_122, iI_480, iI_10000, iI_100000, iI_1000000, jI_0, jI_1, jI_2, jI_3, jI_8, jI_10000, jI_100000, jI_1000000, iI_add, iI_sub, iI_mul, iI_neg, jI_add, jI_sub, jI_mul, jI_neg, iI_long, iI_in, iI_nat, iI_lt, iI_le, iI_eq, jI_lt, jI_le, jI_eq, lg0_lt, lg0_le, lg0_gt, lg0_ge, lg0_eq, true_and, tn_cast, tn_add, tn_sub, tn_mul, tn_lit]
    rw [if_pos (by omega)] at h2
    refine br_n (by omega) ⟨by omega, fun x3 e3 x4 e4 => ?_⟩
    have h6 := (oR.2.2.2.2.2 r (by omega)).2.2.2.2.2.1
    rw [e3, e4, (cr.2.2.1 r (by omega) (by omega)).1]
    simp (disch := omega) only [iI_0, iI_1, iI_2, iI_3, iI_4, iI_5, iI_6, iI_7, iI_8, iI_9, iI_10, iI_11, iI_12, iI_13, iI_20, iI_24, iI_35, iI_38, iI_40, iI_97, iI_122, iI_480, iI_10000, iI_100000, iI_1000000, jI_0, jI_1, jI_2, jI_3, jI_8, jI_10000, jI_100000, jI_1000000, iI_add, iI_sub, iI_mul, iI_neg, jI_add, jI_sub, jI_mul, jI_neg, iI_long, iI_in, iI_nat, iI_lt, iI_le, iI_eq, jI_lt, jI_le, jI_eq, lg0_lt, lg0_le, lg0_gt, lg0_ge, lg0_eq, true_and, tn_cast, tn_add, tn_sub, tn_mul, tn_lit]
    exact ih (r + 1) _ (by omega) (by rw [h2, ← h6]; rfl)
theorem k_entriesOfAll {U : TS} {t : Nat} {Q : Int32 → MI → ML → Prop} (cr : RCr U t I) (oR : OkR U) (hQ : Q (iI (U 17 0)) I L) : wp_X5_entriesOfAll G Sh t I L Q := by
  have w1 := oR.1
  refine ⟨(U 13 0).toNat + 1, k_all cr oR (N := (U 13 0).toNat) (by omega) hQ _ 0 0 (by omega) ?_⟩
  split
  · exact (oR.2.2.2.2.1 (by omega)).symm
  · exact (oR.2.2.2.1 (by omega)).symm
theorem s_count (h : Inv K G x m o Sh F I L n tb T) (hK : K ≤ 1000) : lawS_count G x m o (Rel (K + 1) G x m o) Sh F I L := by
  have hn := h.1.2.2.1; have hxm := h.1.1; have hmo := h.1.2.1
  unfold lawS_count lawK_count
  intro q1 q2
  obtain ⟨z, hz, rfl⟩ := iI_of q1
  obtain ⟨z2, hz2, rfl⟩ := iI_of q2
  unfold wp_X6_count wp_X7_count wp_X7_thrown
  refine k_find h hz (fun hz0 => Or.inl ⟨rfl, ?_⟩) (fun i hi e => Or.inr ⟨tb i, rfl, (h.2.2.1 i hi).2, ?_⟩)
  · refine k_isT h.2.2.2.1.2 hn hz (fun _ => br_y rfl ?_) (fun q => absurd q hz0)
    intro J e1
    rw [e1, mu_hit ⟨rfl, rfl⟩]
    exact br_n (by decide) ⟨mu_hit ⟨rfl, rfl⟩, fun q => absurd q (by decide), h.fault _⟩
  · subst e; have hti := h.1.2.2.2.1 i hi; obtain ⟨⟨cp, cg, cr, ci, cn⟩, hM, oP, oG, oR, oI, oN⟩ := h.2.2.2.2.1 i hi
    refine k_isIn rfl iI_0 iI_11 hz2 (by omega) (by omega) (fun hc => br_y rfl ?_) (fun hc => br_n (by decide) ?_)
    · refine k_isT h.2.2.2.1.2 hn (by omega) (fun q => absurd ⟨by omega, by omega⟩ q) (fun _ => br_n (by decide) ?_)
      simp (disch := omega) only [iI_0, iI_1, iI_2, iI_3, iI_4, iI_5, iI_6, iI_7, iI_8, iI_9, iI_10, iI_11, iI_12, iI_13, iI_20, iI_24, iI_35, iI_38, iI_40, iI_97, iI_122, iI_480, iI_10000, iI_100000, iI_1000000, jI_0, jI_1, jI_2, jI_3, jI_8, jI_10000, jI_100000, jI_1000000, iI_add, iI_sub, iI_mul, iI_neg, jI_add, jI_sub, jI_mul, jI_neg, iI_long, iI_in, iI_nat, iI_lt, iI_le, iI_eq, jI_lt, jI_le, jI_eq, lg0_lt, lg0_le, lg0_gt, lg0_ge, lg0_eq, true_and, tn_cast, tn_add, tn_sub, tn_mul, tn_lit]
      refine ⟨fun hp J e1 => ?_, fun hp => br_n (by omega) (fun J e1 => ?_)⟩ <;> (rw [e1, mu_hit ⟨rfl, rfl⟩]; exact br_n (by decide) ⟨mu_hit ⟨rfl, rfl⟩, fun q => absurd q (by decide), h.fault _⟩)
    · rcases (show z2 = 0 ∨ z2 = 1 ∨ z2 = 2 ∨ z2 = 3 ∨ z2 = 4 ∨ z2 = 5 ∨ z2 = 6 ∨ z2 = 7 ∨ z2 = 8 ∨ z2 = 9 ∨ z2 = 10 ∨ z2 = 11 by omega) with rfl | rfl | rfl | rfl | rfl | rfl | rfl | rfl | rfl | rfl | rfl | rfl
      -- 0
      · refine br_n (by decide) ?_
        unfold wp_X5_tell
        repeat (first | refine br_y (by decide) ?_ | refine br_n (by decide) ?_)
        rw [cp.2.2.1]
        intro L2 e2
        have h' : Inv K G x m o Sh F I L2 n tb T := by rw [e2]; exact h.atO _ _
        obtain ⟨-, hM', -⟩ := h'.2.2.2.2.1 i hi
        refine k_isT h'.2.2.2.1.2 hn (by omega) (fun q => absurd ⟨by omega, by omega⟩ q) (fun _ => br_n (by decide) ?_)
        refine br_n (by decide) (br_y (by decide) (fun J e1 => ?_))
        have hJ : RM (T i) m i J L2 := by rw [e1]; exact hM'.out (by omega)
        have eJ : J m 0 = 0 := by rw [e1]; exact mu_hit ⟨rfl, rfl⟩
        have fJ : Rel (K + 1) G x m o Sh F J L2 := by rw [e1]; exact h'.fault _
        refine br_y (by rw [eJ]; decide) ?_
        repeat (first | refine br_y (by decide) ?_ | refine br_n (by decide) ?_)
        simp (disch := omega) only [iI_in, iI_nat, tn_cast, hJ.i3, hJ.i4]
        have p2 := oP.2.1
        have e0 : iI (T i 3 0) = 0 ↔ T i 3 0 = 0 := by simp (disch := omega) only [iI_0, iI_1, iI_2, iI_3, iI_4, iI_5, iI_6, iI_7, iI_8, iI_9, iI_10, iI_11, iI_12, iI_13, iI_20, iI_24, iI_35, iI_38, iI_40, iI_97, iI_122, iI_480, iI_10000, iI_100000, iI_1000000, jI_0, jI_1, jI_2, jI_3, jI_8, jI_10000, jI_100000, jI_1000000, iI_add, iI_sub, iI_mul, iI_neg, jI_add, jI_sub, jI_mul, jI_neg, iI_long, iI_in, iI_nat, iI_lt, iI_le, iI_eq, jI_lt, jI_le, jI_eq, lg0_lt, lg0_le, lg0_gt, lg0_ge, lg0_eq, true_and, tn_cast, tn_add, tn_sub, tn_mul, tn_lit]
        refine ⟨by omega, fun hv => ?_, fun hv => ⟨by omega, eJ, fun _ => ?_, fJ⟩⟩
        · rw [e0] at hv
          have h4 : T i 4 0 = 0 := by omega
          refine ⟨eJ, fun _ => ?_, fJ⟩
          rw [e2, mul_o, h4]
          decide
        · rw [e2, mul_o]
      -- 1
      · refine br_n (by decide) ?_
        unfold wp_X5_tell
        repeat (first | refine br_y (by decide) ?_ | refine br_n (by decide) ?_)
        rw [cp.2.2.2.1]
        intro L2 e2
        have h' : Inv K G x m o Sh F I L2 n tb T := by rw [e2]; exact h.atO _ _
        obtain ⟨-, hM', -⟩ := h'.2.2.2.2.1 i hi
        refine k_isT h'.2.2.2.1.2 hn (by omega) (fun q => absurd ⟨by omega, by omega⟩ q) (fun _ => br_n (by decide) ?_)
        refine br_n (by decide) (br_y (by decide) (fun J e1 => ?_))
        have hJ : RM (T i) m i J L2 := by rw [e1]; exact hM'.out (by omega)
        have eJ : J m 0 = 0 := by rw [e1]; exact mu_hit ⟨rfl, rfl⟩
        have fJ : Rel (K + 1) G x m o Sh F J L2 := by rw [e1]; exact h'.fault _
        refine br_y (by rw [eJ]; decide) ?_
        repeat (first | refine br_y (by decide) ?_ | refine br_n (by decide) ?_)
        simp (disch := omega) only [iI_in, iI_nat, tn_cast, hJ.i5]
        refine ⟨by omega, eJ, fun _ => ?_, fJ⟩
        rw [e2, mul_o]
      -- 2
      · refine br_n (by decide) ?_
        unfold wp_X5_tell
        repeat (first | refine br_y (by decide) ?_ | refine br_n (by decide) ?_)
        rw [cr.1]
        intro L2 e2
        have h' : Inv K G x m o Sh F I L2 n tb T := by rw [e2]; exact h.atO _ _
        obtain ⟨-, hM', -⟩ := h'.2.2.2.2.1 i hi
        refine k_isT h'.2.2.2.1.2 hn (by omega) (fun q => absurd ⟨by omega, by omega⟩ q) (fun _ => br_n (by decide) ?_)
        refine br_n (by decide) (br_y (by decide) (fun J e1 => ?_))
        have hJ : RM (T i) m i J L2 := by rw [e1]; exact hM'.out (by omega)
        have eJ : J m 0 = 0 := by rw [e1]; exact mu_hit ⟨rfl, rfl⟩
        have fJ : Rel (K + 1) G x m o Sh F J L2 := by rw [e1]; exact h'.fault _
        refine br_y (by rw [eJ]; decide) ?_
        repeat (first | refine br_y (by decide) ?_ | refine br_n (by decide) ?_)
        simp (disch := omega) only [iI_in, iI_nat, tn_cast, hJ.i13]
        refine ⟨by omega, eJ, fun _ => ?_, fJ⟩
        rw [e2, mul_o]
      -- 3
      · refine br_n (by decide) ?_
        unfold wp_X5_tell
        repeat (first | refine br_y (by decide) ?_ | refine br_n (by decide) ?_)
        refine k_entriesOfAll cr oR ?_
        intro L2 e2
        have h' : Inv K G x m o Sh F I L2 n tb T := by rw [e2]; exact h.atO _ _
        obtain ⟨-, hM', -⟩ := h'.2.2.2.2.1 i hi
        refine k_isT h'.2.2.2.1.2 hn (by omega) (fun q => absurd ⟨by omega, by omega⟩ q) (fun _ => br_n (by decide) ?_)
        refine br_n (by decide) (br_y (by decide) (fun J e1 => ?_))
        have hJ : RM (T i) m i J L2 := by rw [e1]; exact hM'.out (by omega)
        have eJ : J m 0 = 0 := by rw [e1]; exact mu_hit ⟨rfl, rfl⟩
        have fJ : Rel (K + 1) G x m o Sh F J L2 := by rw [e1]; exact h'.fault _
        refine br_y (by rw [eJ]; decide) ?_
        repeat (first | refine br_y (by decide) ?_ | refine br_n (by decide) ?_)
        simp (disch := omega) only [iI_in, iI_nat, tn_cast, hJ.i17]
        refine ⟨by omega, eJ, fun _ => ?_, fJ⟩
        rw [e2, mul_o]
      -- 4
      · refine br_n (by decide) ?_
        unfold wp_X5_tell
        repeat (first | refine br_y (by decide) ?_ | refine br_n (by decide) ?_)
        rw [cr.2.1]
        have w2 := oR.2.1
        have e0 : iI (T i 14 0) = 0 ↔ T i 14 0 = 0 := by simp (disch := omega) only [iI_0, iI_1, iI_2, iI_3, iI_4, iI_5, iI_6, iI_7, iI_8, iI_9, iI_10, iI_11, iI_12, iI_13, iI_20, iI_24, iI_35, iI_38, iI_40, iI_97, iI_122, iI_480, iI_10000, iI_100000, iI_1000000, jI_0, jI_1, jI_2, jI_3, jI_8, jI_10000, jI_100000, jI_1000000, iI_add, iI_sub, iI_mul, iI_neg, jI_add, jI_sub, jI_mul, jI_neg, iI_long, iI_in, iI_nat, iI_lt, iI_le, iI_eq, jI_lt, jI_le, jI_eq, lg0_lt, lg0_le, lg0_gt, lg0_ge, lg0_eq, true_and, tn_cast, tn_add, tn_sub, tn_mul, tn_lit]
        refine ⟨fun hv => ?_, fun hv => ?_⟩
        · intro L2 e2
          have h' : Inv K G x m o Sh F I L2 n tb T := by rw [e2]; exact h.atO _ _
          obtain ⟨-, hM', -⟩ := h'.2.2.2.2.1 i hi
          refine k_isT h'.2.2.2.1.2 hn (by omega) (fun q => absurd ⟨by omega, by omega⟩ q) (fun _ => br_n (by decide) ?_)
          refine br_n (by decide) (br_y (by decide) (fun J e1 => ?_))
          have hJ : RM (T i) m i J L2 := by rw [e1]; exact hM'.out (by omega)
          have eJ : J m 0 = 0 := by rw [e1]; exact mu_hit ⟨rfl, rfl⟩
          have fJ : Rel (K + 1) G x m o Sh F J L2 := by rw [e1]; exact h'.fault _
          refine br_y (by rw [eJ]; decide) ?_
          repeat (first | refine br_y (by decide) ?_ | refine br_n (by decide) ?_)
          simp (disch := omega) only [iI_in, iI_nat, tn_cast, hJ.i14]
          refine ⟨by omega, br_y hv ⟨eJ, fun _ => ?_, fJ⟩⟩
          rw [e2, mul_o]
        · intro L2 e2
          have h' : Inv K G x m o Sh F I L2 n tb T := by rw [e2]; exact h.atO _ _
          obtain ⟨-, hM', -⟩ := h'.2.2.2.2.1 i hi
          refine k_isT h'.2.2.2.1.2 hn (by omega) (fun q => absurd ⟨by omega, by omega⟩ q) (fun _ => br_n (by decide) ?_)
          refine br_n (by decide) (br_y (by decide) (fun J e1 => ?_))
          have hJ : RM (T i) m i J L2 := by rw [e1]; exact hM'.out (by omega)
          have eJ : J m 0 = 0 := by rw [e1]; exact mu_hit ⟨rfl, rfl⟩
          have fJ : Rel (K + 1) G x m o Sh F J L2 := by rw [e1]; exact h'.fault _
          refine br_y (by rw [eJ]; decide) ?_
          repeat (first | refine br_y (by decide) ?_ | refine br_n (by decide) ?_)
          simp (disch := omega) only [iI_in, iI_nat, tn_cast, hJ.i14]
          refine ⟨by omega, br_n hv ⟨eJ, fun _ => ?_, fJ⟩⟩
          rw [e2, mul_o]
      -- 5
      · refine br_n (by decide) ?_
        unfold wp_X5_tell
        repeat (first | refine br_y (by decide) ?_ | refine br_n (by decide) ?_)
        rw [cp.1]
        intro L2 e2
        have h' : Inv K G x m o Sh F I L2 n tb T := by rw [e2]; exact h.atO _ _
        obtain ⟨-, hM', -⟩ := h'.2.2.2.2.1 i hi
        refine k_isT h'.2.2.2.1.2 hn (by omega) (fun q => absurd ⟨by omega, by omega⟩ q) (fun _ => br_n (by decide) ?_)
        refine br_n (by decide) (br_y (by decide) (fun J e1 => ?_))
        have hJ : RM (T i) m i J L2 := by rw [e1]; exact hM'.out (by omega)
        have eJ : J m 0 = 0 := by rw [e1]; exact mu_hit ⟨rfl, rfl⟩
        have fJ : Rel (K + 1) G x m o Sh F J L2 := by rw [e1]; exact h'.fault _
        refine br_y (by rw [eJ]; decide) ?_
        repeat (first | refine br_y (by decide) ?_ | refine br_n (by decide) ?_)
        simp (disch := omega) only [iI_in, iI_nat, tn_cast, hJ.i2]
        refine ⟨by omega, eJ, fun _ => ?_, fJ⟩
        rw [e2, mul_o]
      -- 6
      · refine br_y (by decide) ?_
        unfold wp_X1_tell
        repeat (first | refine br_y (by decide) ?_ | refine br_n (by decide) ?_)
        rw [cn.2.1]
        intro L2 e2
        have h' : Inv K G x m o Sh F I L2 n tb T := by rw [e2]; exact h.atO _ _
        obtain ⟨-, hM', -⟩ := h'.2.2.2.2.1 i hi
        refine k_isT h'.2.2.2.1.2 hn (by omega) (fun q => absurd ⟨by omega, by omega⟩ q) (fun _ => br_n (by decide) ?_)
        refine br_n (by decide) (br_y (by decide) (fun J e1 => ?_))
        have hJ : RM (T i) m i J L2 := by rw [e1]; exact hM'.out (by omega)
        have eJ : J m 0 = 0 := by rw [e1]; exact mu_hit ⟨rfl, rfl⟩
        have fJ : Rel (K + 1) G x m o Sh F J L2 := by rw [e1]; exact h'.fault _
        refine br_y (by rw [eJ]; decide) ?_
        repeat (first | refine br_y (by decide) ?_ | refine br_n (by decide) ?_)
        simp (disch := omega) only [iI_in, iI_nat, tn_cast, hJ.i25]
        refine ⟨by omega, eJ, fun _ => ?_, fJ⟩
        rw [e2, mul_o]
      -- 7
      · refine br_y (by decide) ?_
        unfold wp_X1_tell
        repeat (first | refine br_y (by decide) ?_ | refine br_n (by decide) ?_)
        rw [cn.2.2.2.1]
        intro L2 e2
        have h' : Inv K G x m o Sh F I L2 n tb T := by rw [e2]; exact h.atO _ _
        obtain ⟨-, hM', -⟩ := h'.2.2.2.2.1 i hi
        refine k_isT h'.2.2.2.1.2 hn (by omega) (fun q => absurd ⟨by omega, by omega⟩ q) (fun _ => br_n (by decide) ?_)
        refine br_n (by decide) (br_y (by decide) (fun J e1 => ?_))
        have hJ : RM (T i) m i J L2 := by rw [e1]; exact hM'.out (by omega)
        have eJ : J m 0 = 0 := by rw [e1]; exact mu_hit ⟨rfl, rfl⟩
        have fJ : Rel (K + 1) G x m o Sh F J L2 := by rw [e1]; exact h'.fault _
        refine br_y (by rw [eJ]; decide) ?_
        repeat (first | refine br_y (by decide) ?_ | refine br_n (by decide) ?_)
        simp (disch := omega) only [iI_in, iI_nat, tn_cast, hJ.i29]
        refine ⟨by omega, eJ, fun _ => ?_, fJ⟩
        rw [e2, mul_o]
      -- 8
      · refine br_y (by decide) ?_
        unfold wp_X1_tell
        repeat (first | refine br_y (by decide) ?_ | refine br_n (by decide) ?_)
        rw [cn.2.2.2.2.1]
        intro L2 e2
        have h' : Inv K G x m o Sh F I L2 n tb T := by rw [e2]; exact h.atO _ _
        obtain ⟨-, hM', -⟩ := h'.2.2.2.2.1 i hi
        refine k_isT h'.2.2.2.1.2 hn (by omega) (fun q => absurd ⟨by omega, by omega⟩ q) (fun _ => br_n (by decide) ?_)
        refine br_n (by decide) (br_y (by decide) (fun J e1 => ?_))
        have hJ : RM (T i) m i J L2 := by rw [e1]; exact hM'.out (by omega)
        have eJ : J m 0 = 0 := by rw [e1]; exact mu_hit ⟨rfl, rfl⟩
        have fJ : Rel (K + 1) G x m o Sh F J L2 := by rw [e1]; exact h'.fault _
        refine br_y (by rw [eJ]; decide) ?_
        repeat (first | refine br_y (by decide) ?_ | refine br_n (by decide) ?_)
        simp (disch := omega) only [iI_in, iI_nat, tn_cast, hJ.i29, hJ.i30, jI_sub]
        refine ⟨by omega, by omega, eJ, fun _ => ?_, fJ⟩
        rw [e2, mul_o]
      -- 9
      · refine br_y (by decide) ?_
        unfold wp_X1_tell
        repeat (first | refine br_y (by decide) ?_ | refine br_n (by decide) ?_)
        rw [cn.1]
        intro L2 e2
        have h' : Inv K G x m o Sh F I L2 n tb T := by rw [e2]; exact h.atO _ _
        obtain ⟨-, hM', -⟩ := h'.2.2.2.2.1 i hi
        refine k_isT h'.2.2.2.1.2 hn (by omega) (fun q => absurd ⟨by omega, by omega⟩ q) (fun _ => br_n (by decide) ?_)
        refine br_n (by decide) (br_y (by decide) (fun J e1 => ?_))
        have hJ : RM (T i) m i J L2 := by rw [e1]; exact hM'.out (by omega)
        have eJ : J m 0 = 0 := by rw [e1]; exact mu_hit ⟨rfl, rfl⟩
        have fJ : Rel (K + 1) G x m o Sh F J L2 := by rw [e1]; exact h'.fault _
        refine br_y (by rw [eJ]; decide) ?_
        repeat (first | refine br_y (by decide) ?_ | refine br_n (by decide) ?_)
        simp (disch := omega) only [iI_in, iI_nat, tn_cast, hJ.i24]
        refine ⟨by omega, eJ, fun _ => ?_, fJ⟩
        rw [e2, mul_o]
      -- 10
      · refine br_y (by decide) ?_
        unfold wp_X1_tell
        repeat (first | refine br_y (by decide) ?_ | refine br_n (by decide) ?_)
        rw [cn.2.2.2.2.2.1]
        intro L2 e2
        have h' : Inv K G x m o Sh F I L2 n tb T := by rw [e2]; exact h.atO _ _
        obtain ⟨-, hM', -⟩ := h'.2.2.2.2.1 i hi
        refine k_isT h'.2.2.2.1.2 hn (by omega) (fun q => absurd ⟨by omega, by omega⟩ q) (fun _ => br_n (by decide) ?_)
        refine br_n (by decide) (br_y (by decide) (fun J e1 => ?_))
        have hJ : RM (T i) m i J L2 := by rw [e1]; exact hM'.out (by omega)
        have eJ : J m 0 = 0 := by rw [e1]; exact mu_hit ⟨rfl, rfl⟩
        have fJ : Rel (K + 1) G x m o Sh F J L2 := by rw [e1]; exact h'.fault _
        refine br_y (by rw [eJ]; decide) ?_
        repeat (first | refine br_y (by decide) ?_ | refine br_n (by decide) ?_)
        simp (disch := omega) only [iI_in, iI_nat, tn_cast, hJ.i31]
        refine ⟨by omega, eJ, fun _ => ?_, fJ⟩
        rw [e2, mul_o]
      -- 11
      · refine br_y (by decide) ?_
        unfold wp_X1_tell
        repeat (first | refine br_y (by decide) ?_ | refine br_n (by decide) ?_)
        rw [cn.2.2.2.2.2.2]
        intro L2 e2
        have h' : Inv K G x m o Sh F I L2 n tb T := by rw [e2]; exact h.atO _ _
        obtain ⟨-, hM', -⟩ := h'.2.2.2.2.1 i hi
        refine k_isT h'.2.2.2.1.2 hn (by omega) (fun q => absurd ⟨by omega, by omega⟩ q) (fun _ => br_n (by decide) ?_)
        refine br_n (by decide) (br_y (by decide) (fun J e1 => ?_))
        have hJ : RM (T i) m i J L2 := by rw [e1]; exact hM'.out (by omega)
        have eJ : J m 0 = 0 := by rw [e1]; exact mu_hit ⟨rfl, rfl⟩
        have fJ : Rel (K + 1) G x m o Sh F J L2 := by rw [e1]; exact h'.fault _
        refine br_y (by rw [eJ]; decide) ?_
        repeat (first | refine br_y (by decide) ?_ | refine br_n (by decide) ?_)
        simp (disch := omega) only [iI_in, iI_nat, tn_cast, hJ.i32]
        refine ⟨by omega, eJ, fun _ => ?_, fJ⟩
        rw [e2, mul_o]
theorem m_at_no {a r j c : Int32} {Q : Int64 → MI → ML → Prop} (hQ : ∀ J : MI, J = mu I m 0 1 → Q 0 J L) : wp_X7_at_62 G Sh m a r j c Q 1 I L := by
  unfold wp_X7_at_62
  intro J e1
  have eJ : J m 0 = 1 := by rw [e1]; exact mu_hit ⟨rfl, rfl⟩
  rw [eJ]
  exact br_n (by decide) (hQ J e1)
theorem m_at_bad {U : TS} {i : Nat} {r j c : Int} {Q : Int64 → MI → ML → Prop} (hM : RM U m i I L) (cM : I m 1 = iI n) (hi : i < n) (hn : n ≤ 6) (w1 : 0 ≤ U 13 0 ∧ U 13 0 ≤ 20) (w2 : ∀ r : Nat, (r : Int) < U 13 0 → 0 ≤ U 16 r ∧ U 16 r ≤ 24) (hr : -2147483648 ≤ r ∧ r < 2147483648) (hj : -2147483648 ≤ j ∧ j < 2147483648) (hc : -2147483648 ≤ c ∧ c < 2147483648) (bad : ¬ (0 ≤ r ∧ r < U 13 0) ∨ ¬ (0 ≤ j ∧ j < U 16 r.toNat) ∨ ¬ (0 ≤ c ∧ c ≤ 4)) (hQ : ∀ J : MI, J = mu I m 0 1 → Q 0 J L) : wp_X7_at G Sh m (iI i) (iI r) (iI j) (iI c) I L Q := by
  unfold wp_X7_at
  refine k_isT cM hn (by omega) (fun q => absurd ⟨by omega, by omega⟩ q) (fun _ => br_n (by decide) ?_)
  simp (disch := omega) only [iI_lt, iI_le, iI_in, iI_nat, iI_0, iI_4, iI_20, iI_mul, iI_add, tn_cast, hM.i13]
  refine ⟨fun _ => m_at_no hQ, fun hr0 => ⟨by omega, fun _ => m_at_no hQ, fun hr1 => ⟨fun _ => m_at_no hQ, fun hj0 => ⟨fun _ => m_at_no hQ, fun hc0 => ⟨fun hc1 x ex => ?_, fun _ => m_at_no hQ⟩⟩⟩⟩⟩
  obtain ⟨r, rfl⟩ : ∃ r' : Nat, r = (r' : Int) := ⟨r.toNat, by omega⟩
  have := w2 r (by omega)
  rw [tn_cast] at bad
  rw [ex]
  simp (disch := omega) only [iI_lt, iI_in, iI_nat, tn_cast, tn_add, tn_mul, tn_lit, hM.i16]
  exact ⟨by omega, br_n (by omega) (m_at_no hQ)⟩
theorem m_at {U : TS} {i r j : Nat} {c : Int} {Q : Int64 → MI → ML → Prop} (hM : RM U m i I L) (cM : I m 1 = iI n) (hi : i < n) (hn : n ≤ 6) (w1 : 0 ≤ U 13 0 ∧ U 13 0 ≤ 20) (w2 : U 16 r ≤ 24) (w3 : 0 ≤ U 15 r ∧ U 15 r ≤ 24 * r) (hr : (r : Int) < U 13 0) (hj : (j : Int) < U 16 r) (hc : 0 ≤ c ∧ c ≤ 4) (hQ : ∀ (J : MI) (x18 : Int32), J = mu I m 0 0 → RM U m i J L → J m 1 = iI n → x18 = iI ((480 * i + ((U 15 r).toNat + j) : Nat) : Int) →
    ((3 : Int32) ≤ iI c → vp_in x18 2880 ∧ vp_in x18 2880 ∧ ∀ x_22 : Int32, x_22 = (((J (m + 19) (x18).toNatClampNeg) + (J (m + 20) (x18).toNatClampNeg)) - (1 : Int32)) → wp_X7_isColumn G Sh m (iI i) x_22 J L (fun r_23 I_24 L_25 => (r_23 = 0 → Q (0 : Int64) I_24 L_25) ∧ (¬ r_23 = 0 → vp_in x18 2880 ∧ ∀ x_28 : Int32, x_28 = (((24 : Int32) * iI i) + (I_24 (m + 19) (x18).toNatClampNeg)) → vp_in x_28 144 ∧ ∀ y_30 : Int64, y_30 = (L_25 (m + 28) (x_28).toNatClampNeg) → (iI c = (3 : Int32) → Q y_30 I_24 L_25) ∧ (¬ iI c = (3 : Int32) → ∀ x_32 : Int32, x_32 = (((24 : Int32) * iI i) + x_22) → vp_in x_32 144 ∧ ∀ x_34 : Int32, x_34 = (((24 : Int32) * iI i) + x_22) → vp_in x_34 144 ∧ Q (((L_25 (m + 28) (x_32).toNatClampNeg) + (Int32.toInt64 (I_24 (m + 26) (x_34).toNatClampNeg))) - y_30) I_24 L_25)))) ∧ (¬ (3 : Int32) ≤ iI c → (iI c = 0 → vp_in x18 2880 ∧ Q (Int32.toInt64 (J (m + 18) (x18).toNatClampNeg)) J L) ∧ (¬ iI c = 0 → (iI c = (1 : Int32) → vp_in x18 2880 ∧ Q (Int32.toInt64 (J (m + 19) (x18).toNatClampNeg)) J L) ∧ (¬ iI c = (1 : Int32) → vp_in x18 2880 ∧ Q (Int32.toInt64 (J (m + 20) (x18).toNatClampNeg)) J L)))) : wp_X7_at G Sh m (iI i) (iI r) (iI j) (iI c) I L Q := by
  unfold wp_X7_at
  refine k_isT cM hn (by omega) (fun q => absurd ⟨by omega, by omega⟩ q) (fun _ => br_n (by decide) ?_)
  simp (disch := omega) only [iI_lt, iI_le, iI_in, iI_nat, iI_0, iI_4, iI_20, iI_mul, iI_add, tn_cast, hM.i13]
  refine br_n (by omega) ⟨by omega, br_n (by omega) (br_n (by omega) (br_n (by omega) (br_y (by omega) (fun x ex => ?_))))⟩
  rw [ex]
  simp (disch := omega) only [iI_lt, iI_in, iI_nat, tn_cast, tn_add, tn_mul, tn_lit, hM.i16]
  refine ⟨by omega, br_y (by omega) ?_⟩
  unfold wp_X7_at_62
  intro J e1
  have eJ : J m 0 = 0 := by rw [e1]; exact mu_hit ⟨rfl, rfl⟩
  have hJ : RM U m i J L := by rw [e1]; exact hM.out (by omega)
  have cJ : J m 1 = iI n := by rw [e1, mu_miss (Or.inr (by omega))]; exact cM
  rw [eJ]
  refine br_y (by decide) (fun x16 e16 => ?_)
  have e16 : x16 = iI ((20 * i + r : Nat) : Int) := by rw [e16, iI_20, iI_mul, iI_add]; congr 1
  rw [e16]
  refine ⟨by rw [iI_in (by omega)]; omega, fun x18 e18 => hQ J x18 e1 hJ cJ ?_⟩
  rw [e18, iI_nat (by omega), tn_cast, hJ.i15 (by omega), iI_480, iI_mul, iI_add, iI_add]
  congr 1
  omega
theorem s_at (h : Inv K G x m o Sh F I L n tb T) (hK : K ≤ 1000) : lawS_at G x m o (Rel (K + 1) G x m o) Sh F I L := by
  have hn := h.1.2.2.1; have hxm := h.1.1; have hmo := h.1.2.1
  unfold lawS_at lawK_at
  intro q1 q2 q3 q4
  obtain ⟨z, hz, rfl⟩ := iI_of q1
  obtain ⟨z2, hz2, rfl⟩ := iI_of q2
  obtain ⟨z3, hz3, rfl⟩ := iI_of q3
  obtain ⟨z4, hz4, rfl⟩ := iI_of q4
  unfold wp_X6_at wp_X7_thrown
  refine k_find h hz (fun hz0 => Or.inl ⟨rfl, ?_⟩) (fun i hi e => Or.inr ⟨tb i, rfl, (h.2.2.1 i hi).2, ?_⟩)
  · unfold wp_X7_at
    exact k_isT h.2.2.2.1.2 hn hz (fun _ => br_y rfl (m_at_no (fun J e1 => by rw [e1]; exact ⟨mu_hit ⟨rfl, rfl⟩, fun q => absurd q (by decide), h.fault _⟩))) (fun q => absurd q hz0)
  · subst e; have hti := h.1.2.2.2.1 i hi; obtain ⟨⟨cp, cg, cr, ci, cn⟩, hM, oP, oG, oR, oI, oN⟩ := h.2.2.2.2.1 i hi
    have w1 := oR.1
    have w2 : ∀ r : Nat, (r : Int) < T i 13 0 → 0 ≤ T i 16 r ∧ T i 16 r ≤ 24 := by
      intro r hr
      have R := oR.2.2.2.2.2 r hr
      have : clT (T i) ≤ 24 := by
        unfold clT
        have := oP.2.1
        split <;> omega
      omega
    unfold wp_X5_hasEntry
    refine k_isIn rfl iI_0 (show _ = iI (T i 13 0 - 1) by rw [cr.1, iI_1, iI_sub]) hz2 (by omega) (by omega) (fun hc => br_y rfl (br_y rfl ?_)) (fun hc => br_n (by decide) ?_)
    · exact m_at_bad hM h.2.2.2.1.2 hi hn w1 w2 hz2 hz3 hz4 (Or.inl (by omega)) (fun J e1 => by rw [e1]; exact ⟨mu_hit ⟨rfl, rfl⟩, fun q => absurd q (by decide), h.fault _⟩)
    · obtain ⟨r, rfl⟩ : ∃ r : Nat, z2 = (r : Int) := ⟨z2.toNat, by omega⟩
      have R := oR.2.2.2.2.2 r (by omega)
      have C := cr.2.2.1 r (by omega) (by omega)
      have hR := w2 r (by omega)
      refine ⟨by rw [iI_in hz2]; omega, ?_⟩
      rw [iI_nat hz2, tn_cast]
      refine k_isIn rfl iI_0 (show _ = iI (T i 16 r - 1) by rw [C.1, iI_1, iI_sub]) hz3 (by omega) (by omega) (fun hc3 => br_y rfl (br_y rfl ?_)) (fun hc3 => br_n (by decide) (br_n (by decide) ?_))
      · exact m_at_bad hM h.2.2.2.1.2 hi hn w1 w2 hz2 hz3 hz4 (Or.inr (Or.inl (by rw [tn_cast]; omega))) (fun J e1 => by rw [e1]; exact ⟨mu_hit ⟨rfl, rfl⟩, fun q => absurd q (by decide), h.fault _⟩)
      · obtain ⟨j, rfl⟩ : ∃ j : Nat, z3 = (j : Int) := ⟨z3.toNat, by omega⟩
        have E := R.2.2.2.2.2.2 j (by omega)
        have D := C.2.2 j (by omega)
        have B := R.2.1
        have B0 := R.1
        refine ⟨by rw [iI_in hz2]; omega, ?_⟩
        rw [iI_nat hz3, tn_cast, D.1, D.2.1, D.2.2]
        have e24 : enT (T i) r ≤ 24 := by
          have : clT (T i) ≤ 24 := by
            unfold clT
            have := oP.2.1
            split <;> omega
          omega
        have hin : vp_in (iI (j : Int)) 24 := by rw [iI_in hz3]; omega
        by_cases hz5 : 0 ≤ z4 ∧ z4 ≤ 4
        · rcases (show z4 = 0 ∨ z4 = 1 ∨ z4 = 2 ∨ z4 = 3 ∨ z4 = 4 by omega) with rfl | rfl | rfl | rfl | rfl
          · repeat (first | refine br_y (by decide) ?_ | refine br_n (by decide) ?_)
            refine ⟨hin, fun L2 e2 => ?_⟩
            have h' : Inv K G x m o Sh F I L2 n tb T := by rw [e2]; exact h.atO _ _
            obtain ⟨-, hM', -⟩ := h'.2.2.2.2.1 i hi
            refine m_at hM' h'.2.2.2.1.2 hi hn w1 hR.2 ⟨B0, B⟩ (by omega) (by omega) (by omega) (fun J x18 e1 hJ cJ e18 => ?_)
            rw [e18]
            repeat (first | refine br_y (by decide) ?_ | refine br_n (by decide) ?_)
            rw [iI_nat (by omega), tn_cast, hJ.i18 (by omega)]
            exact ⟨by rw [iI_in (by omega)]; omega, by rw [e1]; exact mu_hit ⟨rfl, rfl⟩, fun _ => by rw [e2, mul_o], by rw [e1]; exact h'.fault _⟩
          · repeat (first | refine br_y (by decide) ?_ | refine br_n (by decide) ?_)
            refine ⟨hin, fun L2 e2 => ?_⟩
            have h' : Inv K G x m o Sh F I L2 n tb T := by rw [e2]; exact h.atO _ _
            obtain ⟨-, hM', -⟩ := h'.2.2.2.2.1 i hi
            refine m_at hM' h'.2.2.2.1.2 hi hn w1 hR.2 ⟨B0, B⟩ (by omega) (by omega) (by omega) (fun J x18 e1 hJ cJ e18 => ?_)
            rw [e18]
            repeat (first | refine br_y (by decide) ?_ | refine br_n (by decide) ?_)
            rw [iI_nat (by omega), tn_cast, hJ.i19 (by omega)]
            exact ⟨by rw [iI_in (by omega)]; omega, by rw [e1]; exact mu_hit ⟨rfl, rfl⟩, fun _ => by rw [e2, mul_o], by rw [e1]; exact h'.fault _⟩
          · repeat (first | refine br_y (by decide) ?_ | refine br_n (by decide) ?_)
            refine ⟨hin, fun L2 e2 => ?_⟩
            have h' : Inv K G x m o Sh F I L2 n tb T := by rw [e2]; exact h.atO _ _
            obtain ⟨-, hM', -⟩ := h'.2.2.2.2.1 i hi
            refine m_at hM' h'.2.2.2.1.2 hi hn w1 hR.2 ⟨B0, B⟩ (by omega) (by omega) (by omega) (fun J x18 e1 hJ cJ e18 => ?_)
            rw [e18]
            repeat (first | refine br_y (by decide) ?_ | refine br_n (by decide) ?_)
            rw [iI_nat (by omega), tn_cast, hJ.i20 (by omega)]
            exact ⟨by rw [iI_in (by omega)]; omega, by rw [e1]; exact mu_hit ⟨rfl, rfl⟩, fun _ => by rw [e2, mul_o], by rw [e1]; exact h'.fault _⟩
          · repeat (first | refine br_y (by decide) ?_ | refine br_n (by decide) ?_)
            refine ⟨hin, hin, ?_⟩
            unfold wp_X1_boxPlace
            rw [iI_add, iI_1, iI_sub]
            refine k_hasCol cn oN (by omega) (fun hb => br_y rfl (fun L2 e2 => ?_)) (fun hb => br_n (by decide) ⟨by rw [iI_in (by omega)]; omega, fun L2 e2 => ?_⟩)
            · have h' : Inv K G x m o Sh F I L2 n tb T := by rw [e2]; exact h.atO _ _
              obtain ⟨-, hM', -⟩ := h'.2.2.2.2.1 i hi
              refine m_at hM' h'.2.2.2.1.2 hi hn w1 hR.2 ⟨B0, B⟩ (by omega) (by omega) (by omega) (fun J x18 e1 hJ cJ e18 => ?_)
              rw [e18]
              refine br_y (by decide) ⟨by rw [iI_in (by omega)]; omega, by rw [iI_in (by omega)]; omega, fun x22 e22 => ?_⟩
              rw [iI_nat (by omega), tn_cast] at *
              rw [hJ.i19 (by omega), hJ.i20 (by omega), iI_add, iI_1, iI_sub] at e22
              rw [e22]
              refine k_isCol hJ cJ hi hn oN hK (by omega) (fun _ => br_y rfl ⟨by rw [e1]; exact mu_hit ⟨rfl, rfl⟩, fun _ => by rw [e2, mul_o], by rw [e1]; exact h'.fault _⟩) (fun q => absurd q hb)
            · have h' : Inv K G x m o Sh F I L2 n tb T := by rw [e2]; exact h.atO _ _
              obtain ⟨-, hM', -⟩ := h'.2.2.2.2.1 i hi
              refine m_at hM' h'.2.2.2.1.2 hi hn w1 hR.2 ⟨B0, B⟩ (by omega) (by omega) (by omega) (fun J x18 e1 hJ cJ e18 => ?_)
              rw [e18]
              refine br_y (by decide) ⟨by rw [iI_in (by omega)]; omega, by rw [iI_in (by omega)]; omega, fun x22 e22 => ?_⟩
              rw [iI_nat (by omega), tn_cast] at *
              rw [hJ.i19 (by omega), hJ.i20 (by omega), iI_add, iI_1, iI_sub] at e22
              rw [e22]
              refine k_isCol hJ cJ hi hn oN hK (by omega) (fun q => absurd hb q) (fun _ => br_n (by decide) ?_)
              refine ⟨by rw [iI_in (by omega)]; omega, fun x28 e28 => ?_⟩
              obtain ⟨a, ha⟩ : ∃ a : Nat, T i 19 ((T i 15 r).toNat + j) = (a : Int) := ⟨(T i 19 ((T i 15 r).toNat + j)).toNat, by omega⟩
              have e28 : x28 = iI ((24 * i + a : Nat) : Int) := by rw [e28, hJ.i19 (by omega), ha, iI_24, iI_mul, iI_add]; congr 1
              rw [e28]
              refine ⟨by rw [iI_in (by omega)]; omega, fun y30 e30 => ?_⟩
              rw [iI_nat (by omega), tn_cast, hJ.i28 (by omega)] at e30
              refine br_y (by decide) ⟨by rw [e1]; exact mu_hit ⟨rfl, rfl⟩, fun _ => ?_, by rw [e1]; exact h'.fault _⟩
              have eo := mul_oe e2
              rw [ha] at eo
              simp (disch := omega) only [iI_nat, tn_cast, (cn.2.2.1 a (by omega)).2.2] at eo
              rw [eo, e30]
          · repeat (first | refine br_y (by decide) ?_ | refine br_n (by decide) ?_)
            refine ⟨hin, hin, ?_⟩
            unfold wp_X1_boxWidth
            intro x1 ex1
            rw [iI_add, iI_1, iI_sub] at ex1
            rw [ex1]
            refine k_hasCol cn oN (by omega) (fun hb => br_y rfl (fun L2 e2 => ?_)) (fun hb => br_n (by decide) ⟨by rw [iI_in (by omega)]; omega, by rw [iI_in (by omega)]; omega, by rw [iI_in (by omega)]; omega, fun L2 e2 => ?_⟩)
            · have h' : Inv K G x m o Sh F I L2 n tb T := by rw [e2]; exact h.atO _ _
              obtain ⟨-, hM', -⟩ := h'.2.2.2.2.1 i hi
              refine m_at hM' h'.2.2.2.1.2 hi hn w1 hR.2 ⟨B0, B⟩ (by omega) (by omega) (by omega) (fun J x18 e1 hJ cJ e18 => ?_)
              rw [e18]
              refine br_y (by decide) ⟨by rw [iI_in (by omega)]; omega, by rw [iI_in (by omega)]; omega, fun x22 e22 => ?_⟩
              rw [iI_nat (by omega), tn_cast] at *
              rw [hJ.i19 (by omega), hJ.i20 (by omega), iI_add, iI_1, iI_sub] at e22
              rw [e22]
              refine k_isCol hJ cJ hi hn oN hK (by omega) (fun _ => br_y rfl ⟨by rw [e1]; exact mu_hit ⟨rfl, rfl⟩, fun _ => by rw [e2, mul_o], by rw [e1]; exact h'.fault _⟩) (fun q => absurd q hb)
            · have h' : Inv K G x m o Sh F I L2 n tb T := by rw [e2]; exact h.atO _ _
              obtain ⟨-, hM', -⟩ := h'.2.2.2.2.1 i hi
              refine m_at hM' h'.2.2.2.1.2 hi hn w1 hR.2 ⟨B0, B⟩ (by omega) (by omega) (by omega) (fun J x18 e1 hJ cJ e18 => ?_)
              rw [e18]
              refine br_y (by decide) ⟨by rw [iI_in (by omega)]; omega, by rw [iI_in (by omega)]; omega, fun x22 e22 => ?_⟩
              rw [iI_nat (by omega), tn_cast] at *
              rw [hJ.i19 (by omega), hJ.i20 (by omega), iI_add, iI_1, iI_sub] at e22
              rw [e22]
              refine k_isCol hJ cJ hi hn oN hK (by omega) (fun q => absurd hb q) (fun _ => br_n (by decide) ?_)
              refine ⟨by rw [iI_in (by omega)]; omega, fun x28 e28 => ?_⟩
              obtain ⟨a, ha⟩ : ∃ a : Nat, T i 19 ((T i 15 r).toNat + j) = (a : Int) := ⟨(T i 19 ((T i 15 r).toNat + j)).toNat, by omega⟩
              have e28 : x28 = iI ((24 * i + a : Nat) : Int) := by rw [e28, hJ.i19 (by omega), ha, iI_24, iI_mul, iI_add]; congr 1
              rw [e28]
              refine ⟨by rw [iI_in (by omega)]; omega, fun y30 e30 => ?_⟩
              rw [iI_nat (by omega), tn_cast, hJ.i28 (by omega)] at e30
              refine br_n (by decide) (fun x32 e32 => ?_)
              obtain ⟨b, hb2⟩ : ∃ b : Nat, T i 19 ((T i 15 r).toNat + j) + T i 20 ((T i 15 r).toNat + j) - 1 = (b : Int) := ⟨(T i 19 ((T i 15 r).toNat + j) + T i 20 ((T i 15 r).toNat + j) - 1).toNat, by omega⟩
              have e32 : x32 = iI ((24 * i + b : Nat) : Int) := by rw [e32, hb2, iI_24, iI_mul, iI_add]; congr 1
              refine ⟨by rw [e32, iI_in (by omega)]; omega, fun x34 e34 => ?_⟩
              have e34 : x34 = iI ((24 * i + b : Nat) : Int) := by rw [e34, hb2, iI_24, iI_mul, iI_add]; congr 1
              refine ⟨by rw [e34, iI_in (by omega)]; omega, by rw [e1]; exact mu_hit ⟨rfl, rfl⟩, fun _ => ?_, by rw [e1]; exact h'.fault _⟩
              have eo := mul_oe e2
              rw [hb2, ha] at eo
              simp (disch := omega) only [iI_nat, tn_cast, (cn.2.2.1 a (by omega)).2.2, (cn.2.2.1 b (by omega)).2.2, (cn.2.2.1 b (by omega)).1] at eo
              rw [eo, e30, e32, e34, iI_nat (by omega), tn_cast, hJ.i28 (by omega), hJ.i26 (by omega)]
        · simp (disch := omega) only [iI_eq, iI_0, iI_1, iI_2, iI_3, iI_4]
          refine br_n (by omega) (br_n (by omega) (br_n (by omega) (br_n (by omega) (br_n (by omega) ?_))))
          exact m_at_bad hM h.2.2.2.1.2 hi hn w1 w2 hz2 hz3 hz4 (Or.inr (Or.inr hz5)) (fun J e1 => by rw [e1]; exact ⟨mu_hit ⟨rfl, rfl⟩, fun q => absurd q (by decide), h.fault _⟩)
end OP3
