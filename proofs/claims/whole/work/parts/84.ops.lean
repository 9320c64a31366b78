/-! the calls without loops -/
section OP
variable {K : Nat} {G : GX} {x m o n : Nat} {Sh : SH} {F : Nat → Option Nat} {I I1 I2 : MI} {L L1 L2 : ML} {tb : Nat → Nat} {T : Nat → TS}
theorem Inv.mst (h : Inv K G x m o Sh F I L n tb T) {i : Nat} (hi : i < n) (hcf : CF (tb i) I L I1 L1) {v : Int32} (e1 : I2 = mu I1 m 0 v) : RM (T i) m i I2 L1 ∧ MF m i I1 L1 I2 L1 ∧ I2 m 1 = iI n := by
  rw [e1]
  exact ⟨(h.mrow hi hcf).out (by omega), MF.rf.fld (by decide), by rw [mu_miss (Or.inr (by omega))]; exact h.mcnt hi hcf⟩
theorem s_end (h : Inv K G x m o Sh F I L n tb T) : lawS_end G x m o (Rel (K + 1) G x m o) Sh F I L := by
  have hn := h.1.2.2.1
  unfold lawS_end
  intro q1
  obtain ⟨z, hz, rfl⟩ := iI_of q1
  unfold wp_X6_end wp_X7_end
  refine k_find h hz (fun hz0 => Or.inl ⟨rfl, ?_⟩) (fun i hi e => Or.inr ⟨tb i, rfl, (h.2.2.1 i hi).2, ?_⟩)
  · intro J e1; refine k_isT (by rw [e1, mu_miss (Or.inr (by omega))]; exact h.2.2.2.1.2) hn hz (fun _ => br_y rfl ⟨rfl, by rw [e1]; exact h.fault _⟩) (fun q => absurd q hz0)
  · subst e
    have hti := h.1.2.2.2.1 i hi
    obtain ⟨⟨cp, cg, cr, ci, cn⟩, hM, oP, oG, oR, oI, oN⟩ := h.2.2.2.2.1 i hi
    obtain ⟨r1, r2, r3, r4⟩ := id cr
    obtain ⟨w1, w2, w3, w4, w5, w6⟩ := id oR
    unfold wp_X5_closeRow
    rw [r2]
    simp (disch := omega) only [iI_0, iI_1, iI_2, iI_3, iI_4, iI_5, iI_6, iI_7, iI_8, iI_9, iI_10, iI_11, iI_12, iI_13, iI_20, iI_24, iI_35, iI_38, iI_40, iI_97, iI_122, iI_480, iI_10000, iI_100000, iI_1000000, jI_0, jI_1, jI_2, jI_3, jI_8, jI_10000, jI_100000, jI_1000000, iI_add, iI_sub, iI_mul, iI_neg, jI_add, jI_sub, jI_mul, jI_neg, iI_long, iI_in, iI_nat, iI_lt, iI_le, iI_eq, jI_lt, jI_le, jI_eq, lg0_lt, lg0_le, lg0_gt, lg0_ge, lg0_eq, true_and, tn_cast, tn_add, tn_sub, tn_mul, tn_lit]
    refine ⟨fun hc => ?_, fun hc => ?_⟩
    · have hcf : CF (tb i) I L I L := CF.rf
      intro J e1; obtain ⟨hJ, mJ, cJ⟩ := h.mst hi hcf e1; refine k_isT cJ hn (by omega) (fun q => absurd ⟨by omega, by omega⟩ q) (fun _ => br_n (by decide) ?_)
      simp (disch := omega) only [hJ.i14, iI_0, iI_1, iI_2, iI_3, iI_4, iI_5, iI_6, iI_7, iI_8, iI_9, iI_10, iI_11, iI_12, iI_13, iI_20, iI_24, iI_35, iI_38, iI_40, iI_97, iI_122, iI_480, iI_10000, iI_100000, iI_1000000, jI_0, jI_1, jI_2, jI_3, jI_8, jI_10000, jI_100000, jI_1000000, iI_add, iI_sub, iI_mul, iI_neg, jI_add, jI_sub, jI_mul, jI_neg, iI_long, iI_in, iI_nat, iI_lt, iI_le, iI_eq, jI_lt, jI_le, jI_eq, lg0_lt, lg0_le, lg0_gt, lg0_ge, lg0_eq, true_and, tn_cast, tn_add, tn_sub, tn_mul, tn_lit]
      exact ⟨by omega, br_y hc (by rw [e1]; exact h.fault _)⟩
    · intro J0 e0 x3 ex
      have hcf : CF (tb i) I L J0 L := by rw [e0]; exact CF.rf.mu (by omega)
      have ex : x3 = iI (T i 13 0 - 1) := by rw [ex, e0, mu_miss (Or.inr (by decide)), r1]; simp (disch := omega) only [iI_0, iI_1, iI_2, iI_3, iI_4, iI_5, iI_6, iI_7, iI_8, iI_9, iI_10, iI_11, iI_12, iI_13, iI_20, iI_24, iI_35, iI_38, iI_40, iI_97, iI_122, iI_480, iI_10000, iI_100000, iI_1000000, jI_0, jI_1, jI_2, jI_3, jI_8, jI_10000, jI_100000, jI_1000000, iI_add, iI_sub, iI_mul, iI_neg, jI_add, jI_sub, jI_mul, jI_neg, iI_long, iI_in, iI_nat, iI_lt, iI_le, iI_eq, jI_lt, jI_le, jI_eq, lg0_lt, lg0_le, lg0_gt, lg0_ge, lg0_eq, true_and, tn_cast, tn_add, tn_sub, tn_mul, tn_lit]
      obtain ⟨r, hr⟩ : ∃ r : Nat, T i 13 0 = (r : Int) + 1 := ⟨(T i 13 0 - 1).toNat, by omega⟩
      have ex : x3 = iI r := by rw [ex, hr]; congr 1; omega
      rw [ex]
      simp (disch := omega) only [iI_0, iI_1, iI_2, iI_3, iI_4, iI_5, iI_6, iI_7, iI_8, iI_9, iI_10, iI_11, iI_12, iI_13, iI_20, iI_24, iI_35, iI_38, iI_40, iI_97, iI_122, iI_480, iI_10000, iI_100000, iI_1000000, jI_0, jI_1, jI_2, jI_3, jI_8, jI_10000, jI_100000, jI_1000000, iI_add, iI_sub, iI_mul, iI_neg, jI_add, jI_sub, jI_mul, jI_neg, iI_long, iI_in, iI_nat, iI_lt, iI_le, iI_eq, jI_lt, jI_le, jI_eq, lg0_lt, lg0_le, lg0_gt, lg0_ge, lg0_eq, true_and, tn_cast, tn_add, tn_sub, tn_mul, tn_lit]
      refine ⟨by omega, ?_⟩
      rw [e0, mu_miss (Or.inl (by omega)), (r3 r (by omega) (by omega)).1, ← e0]
      intro J e1; obtain ⟨hJ, mJ, cJ⟩ := h.mst hi hcf e1; refine k_isT cJ hn (by omega) (fun q => absurd ⟨by omega, by omega⟩ q) (fun _ => br_n (by decide) ?_)
      simp (disch := omega) only [hJ.i14, iI_0, iI_1, iI_2, iI_3, iI_4, iI_5, iI_6, iI_7, iI_8, iI_9, iI_10, iI_11, iI_12, iI_13, iI_20, iI_24, iI_35, iI_38, iI_40, iI_97, iI_122, iI_480, iI_10000, iI_100000, iI_1000000, jI_0, jI_1, jI_2, jI_3, jI_8, jI_10000, jI_100000, jI_1000000, iI_add, iI_sub, iI_mul, iI_neg, jI_add, jI_sub, jI_mul, jI_neg, iI_long, iI_in, iI_nat, iI_lt, iI_le, iI_eq, jI_lt, jI_le, jI_eq, lg0_lt, lg0_le, lg0_gt, lg0_ge, lg0_eq, true_and, tn_cast, tn_add, tn_sub, tn_mul, tn_lit]
      refine ⟨by omega, br_n hc ⟨by omega, fun J2 e2 => ⟨by omega, fun x4 ex4 => ?_⟩⟩⟩
      have ex4 : x4 = iI (20 * (i : Int) + r) := by rw [ex4, e2, mu_miss (Or.inl (by omega)), hJ.i13, hr]; simp (disch := omega) only [iI_0, iI_1, iI_2, iI_3, iI_4, iI_5, iI_6, iI_7, iI_8, iI_9, iI_10, iI_11, iI_12, iI_13, iI_20, iI_24, iI_35, iI_38, iI_40, iI_97, iI_122, iI_480, iI_10000, iI_100000, iI_1000000, jI_0, jI_1, jI_2, jI_3, jI_8, jI_10000, jI_100000, jI_1000000, iI_add, iI_sub, iI_mul, iI_neg, jI_add, jI_sub, jI_mul, jI_neg, iI_long, iI_in, iI_nat, iI_lt, iI_le, iI_eq, jI_lt, jI_le, jI_eq, lg0_lt, lg0_le, lg0_gt, lg0_ge, lg0_eq, true_and, tn_cast, tn_add, tn_sub, tn_mul, tn_lit]; congr 1; omega
      rw [ex4]
      simp (disch := omega) only [iI_0, iI_1, iI_2, iI_3, iI_4, iI_5, iI_6, iI_7, iI_8, iI_9, iI_10, iI_11, iI_12, iI_13, iI_20, iI_24, iI_35, iI_38, iI_40, iI_97, iI_122, iI_480, iI_10000, iI_100000, iI_1000000, jI_0, jI_1, jI_2, jI_3, jI_8, jI_10000, jI_100000, jI_1000000, iI_add, iI_sub, iI_mul, iI_neg, jI_add, jI_sub, jI_mul, jI_neg, iI_long, iI_in, iI_nat, iI_lt, iI_le, iI_eq, jI_lt, jI_le, jI_eq, lg0_lt, lg0_le, lg0_gt, lg0_ge, lg0_eq, true_and, tn_cast, tn_add, tn_sub, tn_mul, tn_lit]
      refine ⟨by omega, ?_, ?_⟩
      · rw [e2, mu_miss (Or.inl (by omega)), hJ.i16 (by omega)]
      · refine h.step hi (upT (T i) 14 0 0) hcf ?_ (mJ.tr (by rw [e2]; exact MF.rf.mu 14 0 (by omega) (by decide) (by simp [wid]))) (by rw [e2]; exact hJ.set 14 0 i 0 rfl (by decide) (by simp [wid]) rfl) ?_
        · rw [e0]
          refine ⟨cp.cong (fun f _ _ => upT_fn (by omega)) (fun a _ _ => mu_off (by omega)), cg.cong (fun f _ _ => upT_fn (by omega)) (fun a _ _ => mu_off (by omega)), ?_, ci.cong (fun f _ _ => upT_fn (by omega)) (mu_miss (Or.inr (by decide))) (mu_miss (Or.inr (by decide))) (mu_off (by omega)), cn.cong (fun f _ _ => upT_fn (by omega)) (fun a _ _ => mu_off (by omega)) (fun _ _ _ => rfl)⟩
          refine ⟨(mu_miss (Or.inr (by decide))).trans r1, mu_hit ⟨rfl, rfl⟩, fun r hr h20 => ?_, fun r hr h20 => ?_⟩
          · rw [mu_miss (Or.inl (by omega)), mu_miss (Or.inl (by omega))]
            refine ⟨(r3 r hr h20).1, (r3 r hr h20).2.1, fun j hj => ?_⟩
            rw [mu_miss (Or.inl (by omega)), mu_miss (Or.inl (by omega)), mu_miss (Or.inl (by omega))]
            exact (r3 r hr h20).2.2 j hj
          · rw [mu_miss (Or.inl (by omega)), mu_miss (Or.inl (by omega))]
            exact r4 r hr h20
        · refine ⟨oP.cong (fun f _ _ => upT_fn (by omega)), oG.cong (fun f _ _ => upT_fn (by omega)), ?_, oI.cong rfl (fun f _ _ => upT_fn (by omega)), oN.cong (fun f _ _ => upT_fn (by omega))⟩
          exact ⟨w1, Or.inl rfl, w3, w4, w5, w6⟩
end OP
