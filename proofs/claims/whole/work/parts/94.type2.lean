section OP10
variable {K : Nat} {G : GX} {x m o n : Nat} {Sh : SH} {F : Nat → Option Nat} {I I1 I2 : MI} {L L1 L2 : ML} {tb : Nat → Nat} {T : Nat → TS}
theorem char_ok : ∀ n : Fin 256, ((Int32.toUInt32 (iI (n.val : Int)) % 65536).toInt32).toUInt32.toUInt16.toUInt32.toInt32 = iI (n.val : Int) := by decide +kernel
theorem cnB_succ (f : Nat → Nat) (k : Nat) : cnB f (k + 1) = if f k = 0 then cnB f k else cnB f k + 1 := rfl
theorem k_putSigns {U : TS} {t q : Nat} {f : Nat → Nat} {p : Int32} {Q : MI → ML → Prop} (hf : ∀ j, j < 4 → f (q + j) = bv p j) (h0 : 0 ≤ U 2 0) (h40 : U 2 0 + cnB f (q + 4) ≤ 40) (hC : RC (pushL U f q) t I L) (hQ : ∀ J : MI, CF t I L J L → RC (pushL U f (q + 4)) t J L → Q J L) : wp_X3_putSigns G Sh (t + 1) p I L Q := by
  have go : ∀ (d k : Nat), k + d = 4 → ∀ J : MI, CF t I L J L → RC (pushL U f (q + k)) t J L → wp_X3_putSigns_3 G Sh (t + 1) p Q (d + 1) (iI (24 - 8 * (k : Int))) J L := by
    intro d
    induction d with
    | zero =>
      intro k h1 J hJ hR
      show wb_X3_putSigns_3 G Sh (t + 1) p Q _ _ J L
      unfold wb_X3_putSigns_3
      rw [show k = 4 by omega] at *
      exact lt_br rfl iI_0 (by omega) (by omega) (fun _ => hQ J hJ hR) (fun q => absurd (by omega) q)
    | succ d ih =>
      intro k h1 J hJ hR
      show wb_X3_putSigns_3 G Sh (t + 1) p Q (wp_X3_putSigns_3 G Sh (t + 1) p Q (d + 1)) _ J L
      unfold wb_X3_putSigns_3
      refine lt_br rfl iI_0 (by omega) (by omega) (fun q => absurd q (by omega)) (fun _ => ?_)
      have hlt := bv_lt p k
      have e8 : iI (24 - 8 * (k : Int)) + (-8 : Int32) = iI (24 - 8 * ((k + 1 : Nat) : Int)) := by
        rw [show (-8 : Int32) = iI (-8) by decide, iI_add]
        congr 1
        omega
      have ec := cnB_succ f (q + k)
      have em := cnB_mono f (q + k + 1) (3 - k)
      rw [show q + k + 1 + (3 - k) = q + 4 by omega] at em
      have el := pushL_len (U := U) (f := f) (q + k)
      unfold wp_X3_byteOf
      rw [byteC p k (by omega), e8, ← hf k (by omega)]
      rw [← hf k (by omega)] at hlt
      refine eq_br rfl iI_0 (by omega) (by omega) (fun z x6 e6 => ?_) (fun z => ?_)
      · rw [e6]
        refine ih (k + 1) (by omega) J hJ ?_
        show RC (push (pushL U f (q + k)) (f (q + k))) t J L
        rw [push_0 (by omega)]
        exact hR
      · rw [if_neg (by omega)] at ec
        have l3 : J (t + 1) 3 = iI ((U 2 0).toNat + cnB f (q + k) : Nat) := by rw [hR.1.1, el]; congr 1; omega
        refine le_br iI_40 l3 (by omega) (by omega) (fun z => absurd z (by omega)) (fun _ => ?_)
        rw [l3, nat_ok rfl (by omega), char_ok ⟨f (q + k), hlt⟩]
        refine ⟨in_ok rfl (by omega) (by omega), fun A1 a1 A2 a2 x12 e12 => ?_⟩
        have b3 : A1 (t + 1) 3 = iI ((U 2 0).toNat + cnB f (q + k) : Nat) := by rw [a1, mu_miss (Or.inl (by omega)), l3]
        rw [b3, iI_1, iI_add] at a2
        rw [e12]
        refine ih (k + 1) (by omega) A2 ?_ ?_
        · rw [a2, a1]
          exact (hJ.mu (by omega)).mu (by omega)
        · have := push_C (v := f (q + k)) hR (by omega) (by omega)
          rw [el] at this
          rw [a2, a1]
          show RC (push (pushL U f (q + k)) (f (q + k))) t _ L
          have e1 : (U 2 0 + ↑(cnB f (q + k))).toNat = (U 2 0).toNat + cnB f (q + k) := by omega
          have e2 : ((((U 2 0).toNat + cnB f (q + k) : Nat) : Int) + 1) = U 2 0 + ↑(cnB f (q + k)) + 1 := by omega
          rw [e2, ← e1]
          exact this
  exact ⟨5, go 4 0 (by omega) I CF.rf hC⟩
theorem k_append3 {U : TS} {t : Nat} {a b c : Int32} {Q : Int32 → MI → ML → Prop} (hC : RC U t I L) (oP : OkP U) (k2 : ¬ (∀ j, j < 12 → okS (by3 a b c j)) → Q (-2) I L) (k3 : (∀ j, j < 12 → okS (by3 a b c j)) → ¬ U 3 0 = 0 → Q (-3) I L) (k4 : (∀ j, j < 12 → okS (by3 a b c j)) → U 3 0 = 0 → ¬ U 2 0 + cnB (by3 a b c) 12 ≤ 40 → Q (-4) I L)
    (kk : (∀ j, j < 12 → okS (by3 a b c j)) → U 3 0 = 0 → U 2 0 + cnB (by3 a b c) 12 ≤ 40 → ∀ J : MI, CF t I L J L → RC (pushL U (by3 a b c) 12) t J L → Q (iI (U 2 0 + cnB (by3 a b c) 12)) J L) : wp_X3_append G Sh (t + 1) a b c I L Q := by
  have fa : ∀ j, j < 4 → by3 a b c (0 + j) = bv a j := fun j hj => by unfold by3; rw [if_pos (by omega), Nat.zero_add]
  have fb : ∀ j, j < 4 → by3 a b c (4 + j) = bv b j := fun j hj => by unfold by3; rw [if_neg (by omega), if_pos (by omega), show 4 + j - 4 = j by omega]
  have fc : ∀ j, j < 4 → by3 a b c (8 + j) = bv c j := fun j hj => by unfold by3; rw [if_neg (by omega), if_neg (by omega), show 8 + j - 8 = j by omega]
  have p1 := oP.1
  have p2 := oP.2.1
  have hsum : cnB (by3 a b c) 12 = cnB (bv a) 4 + cnB (bv b) 4 + cnB (bv c) 4 := by
    rw [show 12 = 8 + 4 from rfl, cnB_split _ 8 4, show 8 = 4 + 4 from rfl, cnB_split _ 4 4]
    rw [cnB_cong (fun j hj => show by3 a b c j = bv a j by rw [← fa j hj, Nat.zero_add]), cnB_cong (fun j hj => fb j hj), cnB_cong (fun j hj => fc j hj)]
  have ca := cnB_le (bv a) 4
  have cb := cnB_le (bv b) 4
  have cc := cnB_le (bv c) 4
  unfold wp_X3_append
  refine k_onlySigns (fun oa => br_n (by decide) ?_) (fun na => br_y rfl (k2 (fun h => na (fun j hj => by rw [← fa j hj]; exact h _ (by omega)))))
  refine k_onlySigns (fun ob => br_n (by decide) ?_) (fun na => br_y rfl (k2 (fun h => na (fun j hj => by rw [← fb j hj]; exact h _ (by omega)))))
  refine k_onlySigns (fun oc => br_n (by decide) ?_) (fun na => br_y rfl (k2 (fun h => na (fun j hj => by rw [← fc j hj]; exact h _ (by omega)))))
  have all : ∀ j, j < 12 → okS (by3 a b c j) := by
    intro j hj
    rcases Nat.lt_or_ge j 4 with q | q
    · have := oa j q
      rw [← fa j q, Nat.zero_add] at this
      exact this
    · rcases Nat.lt_or_ge j 8 with q2 | q2
      · have := ob (j - 4) (by omega)
        rw [← fb (j - 4) (by omega), show 4 + (j - 4) = j by omega] at this
        exact this
      · have := oc (j - 8) (by omega)
        rw [← fc (j - 8) (by omega), show 8 + (j - 8) = j by omega] at this
        exact this
  refine eq_br hC.1.2.1 iI_0 (by omega) (by omega) (fun hl => ?_) (fun hl => k3 all hl)
  refine k_signsOf (k_signsOf (k_signsOf ?_))
  rw [hC.1.1, iI_add, iI_add, iI_add]
  refine le_br rfl iI_40 (by omega) (by omega) (fun h40 => ?_) (fun h40 => k4 all hl (by omega))
  have h40 : U 2 0 + cnB (by3 a b c) 12 ≤ 40 := by omega
  have m4 := cnB_mono (by3 a b c) 4 8
  have m8 := cnB_mono (by3 a b c) 8 4
  refine k_putSigns (q := 0) fa p1.1 (by rw [show 4 + 8 = 12 from rfl] at m4; show U 2 0 + cnB (by3 a b c) 4 ≤ 40; omega) hC (fun J1 c1 r1 => ?_)
  refine k_putSigns (q := 4) fb p1.1 (by rw [show 8 + 4 = 12 from rfl] at m8; show U 2 0 + cnB (by3 a b c) 8 ≤ 40; omega) r1 (fun J2 c2 r2 => ?_)
  refine k_putSigns (q := 8) fc p1.1 h40 r2 (fun J3 c3 r3 => ?_)
  have r3 : RC (pushL U (by3 a b c) 12) t J3 L := r3
  rw [r3.1.1, pushL_len]
  exact kk all hl h40 J3 ((c1.tr c2).tr c3) r3
theorem k_byteM {a b c : Int32} {k : Nat} {Q : Int32 → MI → ML → Prop} (hk : k < 12) (hQ : Q (iI (by3 a b c k)) I L) : wp_X7_byteOf G Sh a b c (iI k) I L Q := by
  unfold wp_X7_byteOf wp_X7_byteOf_20
  have h4 : ¬ (4 : Int32) = 0 := by decide
  have e : ∀ p : Int32, (p >>> (((24 : Int32) - ((8 : Int32) * (iI k - iI k / (4 : Int32) * (4 : Int32)))) &&& 31)) &&& (255 : Int32) = iI (bv p (k % 4)) := by
    intro p
    rw [iI_4, iI_rem (by omega) (by omega), iI_8, iI_mul, iI_24, iI_sub, show (24 : Int) - 8 * ((k : Int) % 4) = 24 - 8 * ((k % 4 : Nat) : Int) by omega]
    exact byteM p (k % 4) (by omega)
  rw [e, e, e]
  unfold by3 at hQ
  refine le_br iI_4 rfl (by omega) (by omega) (fun q => ?_) (fun q => ⟨h4, ?_⟩)
  · rw [if_neg (by omega)] at hQ
    refine le_br iI_8 rfl (by omega) (by omega) (fun q => ⟨h4, ?_⟩) (fun q => ⟨h4, ?_⟩)
    · rw [if_neg (by omega)] at hQ
      rw [show k % 4 = k - 8 by omega]
      exact hQ
    · rw [if_pos (by omega)] at hQ
      rw [show k % 4 = k - 4 by omega]
      exact hQ
  · rw [if_pos (by omega)] at hQ
    rw [show k % 4 = k by omega]
    exact hQ
theorem k_isLetter {v : Int} {Q : Int32 → MI → ML → Prop} (hv : -2147483648 ≤ v ∧ v < 2147483648) (k1 : 97 ≤ v ∧ v ≤ 122 → Q 1 I L) (k0 : ¬ (97 ≤ v ∧ v ≤ 122) → Q 0 I L) : wp_X7_isLetter G Sh (iI v) I L Q := by
  unfold wp_X7_isLetter
  refine lt_br rfl iI_97 hv (by omega) (fun q => k0 (by omega)) (fun q => ?_)
  exact lt_br iI_122 rfl (by omega) hv (fun q => k0 (by omega)) (fun q => k1 (by omega))
theorem push_M {U : TS} {i v : Nat} (hM : RM U m i I L) (hv : v ≠ 0) (h0 : 0 ≤ U 2 0) (h40 : U 2 0 < 40) : RM (push U v) m i (mu (mu I (m + 1) (40 * i + (U 2 0).toNat) (iI v)) (m + 2) i (iI (U 2 0 + 1))) L := by
  unfold push
  rw [if_neg hv]
  exact (hM.set 1 (U 2 0).toNat _ v rfl (show (U 2 0).toNat < 40 by omega) rfl rfl).set 2 0 i _ rfl (by decide) (by simp [wid]) rfl
theorem k_putM {U : TS} {i : Nat} {a b c : Int32} {Q : Int32 → MI → ML → Prop} (hM : RM U m i I L) (hi : i < 6) (h0 : 0 ≤ U 2 0) (h40 : U 2 0 + cnB (by3 a b c) 12 ≤ 40) (hQ : ∀ J : MI, MF m i I L J L → RM (pushL U (by3 a b c) 12) m i J L → Q (iI (U 2 0 + cnB (by3 a b c) 12)) J L) : ∃ n, wp_X7_type_143 G Sh m (iI i) a b c Q n 0 I L := by
  have vi : vp_in (iI (i : Int)) 6 := in_ok rfl hi (by omega)
  have ei : (iI (i : Int)).toNatClampNeg = i := nat_ok rfl (by omega)
  have go : ∀ (d k : Nat), k + d = 12 → ∀ J : MI, MF m i I L J L → RM (pushL U (by3 a b c) k) m i J L → wp_X7_type_143 G Sh m (iI i) a b c Q (d + 1) (iI k) J L := by
    intro d
    induction d with
    | zero =>
      intro k h1 J hJ hR
      show wb_X7_type_143 G Sh m (iI i) a b c Q _ _ J L
      unfold wb_X7_type_143
      rw [show k = 12 by omega] at *
      refine le_br iI_12 rfl (by omega) (by omega) (fun _ => ⟨vi, ?_⟩) (fun q => absurd (by omega) q)
      rw [ei, hR.i2, pushL_len]
      exact hQ J hJ hR
    | succ d ih =>
      intro k h1 J hJ hR
      show wb_X7_type_143 G Sh m (iI i) a b c Q (wp_X7_type_143 G Sh m (iI i) a b c Q (d + 1)) _ J L
      unfold wb_X7_type_143
      refine le_br iI_12 rfl (by omega) (by omega) (fun q => absurd q (by omega)) (fun _ => ?_)
      have ec := cnB_succ (by3 a b c) k
      have em := cnB_mono (by3 a b c) (k + 1) (11 - k)
      rw [show k + 1 + (11 - k) = 12 by omega] at em
      have el := pushL_len (U := U) (f := by3 a b c) k
      have hlt : by3 a b c k < 256 := by
        unfold by3
        have h1 := bv_lt a k
        have h2 := bv_lt b (k - 4)
        have h3 := bv_lt c (k - 8)
        split
        · exact h1
        · split
          · exact h2
          · exact h3
      refine k_byteM (by omega) ?_
      refine eq_br rfl iI_0 (by omega) (by omega) (fun z x6 e6 => ?_) (fun z => ?_)
      · rw [e6, iI_1, iI_add]
        refine ih (k + 1) (by omega) J hJ ?_
        show RM (push (pushL U (by3 a b c) k) (by3 a b c k)) m i J L
        rw [push_0 (by omega)]
        exact hR
      · rw [if_neg (by omega)] at ec
        have l2 : J (m + 2) i = iI ((U 2 0).toNat + cnB (by3 a b c) k : Nat) := by rw [hR.i2, el]; congr 1; omega
        rw [ei, l2, show (40 : Int32) * iI i + iI (((U 2 0).toNat + cnB (by3 a b c) k : Nat) : Int) = iI ((40 * i + ((U 2 0).toNat + cnB (by3 a b c) k) : Nat) : Int) from ix_ok 40 i _, nat_ok rfl (by omega)]
        refine ⟨vi, in_ok rfl (by omega) (by omega), fun A1 a1 => ⟨vi, vi, fun A2 a2 x12 e12 => ?_⟩⟩
        have b2 : A1 (m + 2) i = iI ((U 2 0).toNat + cnB (by3 a b c) k : Nat) := by rw [a1, mu_miss (Or.inl (by omega)), l2]
        rw [b2, iI_1, iI_add] at a2
        rw [e12, iI_1, iI_add]
        refine ih (k + 1) (by omega) A2 ?_ ?_
        · rw [a2, a1]
          exact (hJ.mu 1 ((U 2 0).toNat + cnB (by3 a b c) k) (by omega) (show _ < 40 by omega) rfl).mu 2 0 (by omega) (by decide) (by simp [wid])
        · have := push_M (v := by3 a b c k) hR (by omega) (by omega) (by omega)
          rw [el] at this
          rw [a2, a1]
          show RM (push (pushL U (by3 a b c) k) (by3 a b c k)) m i _ L
          have e1 : (U 2 0 + ↑(cnB (by3 a b c) k)).toNat = (U 2 0).toNat + cnB (by3 a b c) k := by omega
          have e2 : ((((U 2 0).toNat + cnB (by3 a b c) k : Nat) : Int) + 1) = U 2 0 + ↑(cnB (by3 a b c) k) + 1 := by omega
          rw [e2, ← e1]
          exact this
  exact ⟨13, go 12 0 (by omega) I MF.rf hM⟩
theorem k_typeM {U : TS} {i : Nat} {a b c : Int32} {Q : Int32 → MI → ML → Prop} (hM : RM U m i I L) (hi : i < 6) (oP : OkP U) (k2 : ¬ (∀ j, j < 12 → okS (by3 a b c j)) → Q (-2) I L) (k3 : (∀ j, j < 12 → okS (by3 a b c j)) → ¬ U 3 0 = 0 → Q (-3) I L) (k4 : (∀ j, j < 12 → okS (by3 a b c j)) → U 3 0 = 0 → ¬ U 2 0 + cnB (by3 a b c) 12 ≤ 40 → Q (-4) I L)
    (kk : (∀ j, j < 12 → okS (by3 a b c j)) → U 3 0 = 0 → U 2 0 + cnB (by3 a b c) 12 ≤ 40 → ∀ J : MI, MF m i I L J L → RM (pushL U (by3 a b c) 12) m i J L → Q (iI (U 2 0 + cnB (by3 a b c) 12)) J L) : ∃ n, wp_X7_type_24 G Sh m (iI i) a b c Q n 0 1 0 I L := by
  have vi : vp_in (iI (i : Int)) 6 := in_ok rfl hi (by omega)
  have ei : (iI (i : Int)).toNatClampNeg = i := nat_ok rfl (by omega)
  have p1 := oP.1
  have p2 := oP.2.1
  have go : ∀ (d k : Nat) (g : Int32), k + d = 12 → (g = 1 ∧ (∀ j, j < k → okS (by3 a b c j)) ∨ g = 0 ∧ ¬ (∀ j, j < k → okS (by3 a b c j))) → wp_X7_type_24 G Sh m (iI i) a b c Q (d + 1) (iI (cnB (by3 a b c) k)) g (iI k) I L := by
    intro d
    induction d with
    | zero =>
      intro k g h1 hg
      show wb_X7_type_24 G Sh m (iI i) a b c Q _ _ _ _ I L
      unfold wb_X7_type_24
      rw [show k = 12 by omega] at *
      have cl := cnB_le (by3 a b c) 12
      refine le_br iI_12 rfl (by omega) (by omega) (fun _ => ?_) (fun q => absurd (by omega) q)
      rcases hg with ⟨rfl, all⟩ | ⟨rfl, no⟩
      · refine br_n (by decide) ⟨vi, ?_⟩
        rw [ei]
        refine eq_br hM.i3 iI_0 (by omega) (by omega) (fun hl => ⟨vi, ?_⟩) (fun hl => k3 all hl)
        rw [hM.i2, iI_add]
        refine le_br rfl iI_40 (by omega) (by omega) (fun h40 => ?_) (fun h40 => k4 all hl h40)
        exact k_putM hM hi p1.1 h40 (kk all hl h40)
      · exact br_y rfl (k2 no)
    | succ d ih =>
      intro k g h1 hg
      show wb_X7_type_24 G Sh m (iI i) a b c Q (wp_X7_type_24 G Sh m (iI i) a b c Q (d + 1)) _ _ _ I L
      unfold wb_X7_type_24
      refine le_br iI_12 rfl (by omega) (by omega) (fun q => absurd q (by omega)) (fun _ => ?_)
      have ec := cnB_succ (by3 a b c) k
      have cl := cnB_le (by3 a b c) k
      have hlt : by3 a b c k < 256 := by
        unfold by3
        have h1 := bv_lt a k
        have h2 := bv_lt b (k - 4)
        have h3 := bv_lt c (k - 8)
        split
        · exact h1
        · split
          · exact h2
          · exact h3
      have next : ∀ (g2 x17 : Int32), x17 = iI k + 1 → (g2 = 1 ∧ (∀ j, j < k + 1 → okS (by3 a b c j)) ∨ g2 = 0 ∧ ¬ (∀ j, j < k + 1 → okS (by3 a b c j))) → wp_X7_type_24 G Sh m (iI i) a b c Q (d + 1) (iI (cnB (by3 a b c) (k + 1))) g2 x17 I L := by
        intro g2 x17 e17 hg2
        rw [e17, iI_1, iI_add]
        exact ih (k + 1) g2 (by omega) hg2
      have mid : ∀ v : Int32, v = iI (cnB (by3 a b c) (k + 1)) → wp_X7_type_56 G Sh m (iI i) a b c (wp_X7_type_24 G Sh m (iI i) a b c Q (d + 1)) Q g (iI k) (iI (by3 a b c k)) v I L := by
        intro v ev
        unfold wp_X7_type_56
        rw [ev]
        rcases hg with ⟨rfl, all⟩ | ⟨rfl, no⟩
        · have yes : okS (by3 a b c k) → ∀ j, j < k + 1 → okS (by3 a b c j) := fun hk j hj => by
            rcases Nat.lt_or_ge j k with q | q
            · exact all j q
            · rw [show j = k by omega]; exact hk
          refine br_n (by decide) ?_
          refine eq_br rfl iI_0 (by omega) (by omega) (fun q x e => next _ x e (Or.inl ⟨rfl, yes (by unfold okS; omega)⟩)) (fun q => ?_)
          refine k_isLetter (by omega) (fun hl => br_n (by decide) (fun x e => next _ x e (Or.inl ⟨rfl, yes (by unfold okS; omega)⟩))) (fun hl => br_y rfl ?_)
          refine eq_br rfl iI_35 (by omega) (by omega) (fun q x e => next _ x e (Or.inl ⟨rfl, yes (by unfold okS; omega)⟩)) (fun q => ?_)
          refine eq_br rfl iI_38 (by omega) (by omega) (fun q x e => next _ x e (Or.inl ⟨rfl, yes (by unfold okS; omega)⟩)) (fun q x e => next _ x e (Or.inr ⟨rfl, fun h => ?_⟩))
          have := h k (by omega)
          unfold okS at this
          omega
        · exact br_y rfl (fun x e => next _ x e (Or.inr ⟨rfl, fun h => no (fun j hj => h j (by omega))⟩))
      refine k_byteM (by omega) ?_
      refine eq_br rfl iI_0 (by omega) (by omega) (fun z => mid _ (by rw [ec, if_pos (by omega)])) (fun z => mid _ (by rw [ec, if_neg (by omega), iI_1, iI_add]; rfl))
  exact ⟨13, go 12 0 1 (by omega) (Or.inl ⟨rfl, fun j hj => absurd hj (by omega)⟩)⟩
theorem s_type (h : Inv K G x m o Sh F I L n tb T) : lawS_type G x m o (Rel (K + 1) G x m o) Sh F I L := by
  have hn := h.1.2.2.1; have hxm := h.1.1; have hmo := h.1.2.1
  unfold lawS_type
  intro q1 a b c
  obtain ⟨z, hz, rfl⟩ := iI_of q1
  unfold wp_X6_type
  refine k_find h hz (fun hz0 => Or.inl ⟨rfl, ?_⟩) (fun i hi e => Or.inr ⟨tb i, rfl, (h.2.2.1 i hi).2, ?_⟩)
  · unfold wp_X7_type
    intro J e1; refine k_isT (by rw [e1, mu_miss (Or.inr (by omega))]; exact h.2.2.2.1.2) hn hz (fun _ => br_y rfl ⟨rfl, by rw [e1]; exact h.fault _⟩) (fun q => absurd q hz0)
  · subst e
    have hti := h.1.2.2.2.1 i hi
    obtain ⟨hC, hM, hok⟩ := h.2.2.2.2.1 i hi
    obtain ⟨oP, oG, oR, oI, oN⟩ := id hok
    have p1 := oP.1
    have hcf : CF (tb i) I L I L := CF.rf
    have fin : ∀ J : MI, J = mu I m 0 0 → Rel (K + 1) G x m o Sh F J L := fun J e1 => by rw [e1]; exact h.fault _
    refine k_append3 hC oP (fun no => ?_) (fun all hl => ?_) (fun all hl h40 => ?_) (fun all hl h40 J0 hcf0 hR0 => ?_)
    · unfold wp_X7_type
      intro J e1; obtain ⟨hJ, mJ, cJ⟩ := h.mst hi hcf e1; refine k_isT cJ hn (by omega) (fun q => absurd ⟨by omega, by omega⟩ q) (fun _ => br_n (by decide) ?_)
      exact k_typeM hJ (by omega) oP (fun _ => ⟨rfl, fin _ e1⟩) (fun q => absurd q no) (fun q => absurd q no) (fun q => absurd q no)
    · unfold wp_X7_type
      intro J e1; obtain ⟨hJ, mJ, cJ⟩ := h.mst hi hcf e1; refine k_isT cJ hn (by omega) (fun q => absurd ⟨by omega, by omega⟩ q) (fun _ => br_n (by decide) ?_)
      exact k_typeM hJ (by omega) oP (fun q => absurd all q) (fun _ _ => ⟨rfl, fin _ e1⟩) (fun _ q => absurd q hl) (fun _ q => absurd q hl)
    · unfold wp_X7_type
      intro J e1; obtain ⟨hJ, mJ, cJ⟩ := h.mst hi hcf e1; refine k_isT cJ hn (by omega) (fun q => absurd ⟨by omega, by omega⟩ q) (fun _ => br_n (by decide) ?_)
      exact k_typeM hJ (by omega) oP (fun q => absurd all q) (fun _ q => absurd hl q) (fun _ _ _ => ⟨rfl, fin _ e1⟩) (fun _ _ q => absurd q h40)
    · unfold wp_X7_type
      intro J e1
      obtain ⟨hJ, mJ, cJ⟩ := h.mst hi hcf0 e1
      refine k_isT cJ hn (by omega) (fun q => absurd ⟨by omega, by omega⟩ q) (fun _ => br_n (by decide) ?_)
      refine k_typeM hJ (by omega) oP (fun q => absurd all q) (fun _ q => absurd hl q) (fun _ _ q => absurd h40 q) (fun _ _ _ J2 mJ2 hJ2 => ⟨rfl, ?_⟩)
      refine h.step hi _ hcf0 hR0 (mJ.tr mJ2) hJ2 ?_
      have V : ∀ f, f ≠ 1 → f ≠ 2 → pushL (T i) (by3 a b c) 12 f = T i f := fun f h1 h2 => pushL_fn h1 h2 12
      exact ⟨pushL_ok oP 12 all h40, oG.cong (fun f _ _ => V f (by omega) (by omega)), oR.cong (fun f _ _ _ => V f (by omega) (by omega)), oI.cong (by rw [V 13 (by omega) (by omega)]) (fun f _ _ => V f (by omega) (by omega)), oN.cong (fun f _ _ => V f (by omega) (by omega))⟩
end OP10
