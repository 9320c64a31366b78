section RUN
variable {K : Nat} {G : GX} {x m o n : Nat} {Sh : SH} {F : Nat → Option Nat} {I I0 I1 I2 : MI} {L L0 L1 L2 : ML} {tb : Nat → Nat} {T : Nat → TS} {U V : TS} {b t N cols i : Nat} {E : Int}
theorem k_runM {Q : Int64 → MI → ML → Prop} {way by_ : Int} (hi : i < 6) (hok : Ok K U) (h3 : U 3 0 = 1) (hN : U 17 0 = (N : Int)) (hcols : mxE U N = (cols : Int)) (hw : 0 ≤ way ∧ way ≤ 2) (hb : -2147483648 ≤ by_ ∧ by_ < 2147483648) (hb2 : way = 0 ∨ -1000000 ≤ by_ ∧ by_ ≤ 1000000) (hR : RM U m i I L)
    (hQ : ∀ (J : MI) (L2 : ML) (W : TS) (E O wh : Int), E = exT way by_ (natP U N cols) → O = orT U N cols E → wh = smT U N E O (cols + 1) → RM W m i J L2 → MF m i I L J L2 → Vb W U → W 24 0 = U 24 0 + 1 → W 25 0 = cols → W 29 0 = natP U N cols → W 30 0 = natP U N cols + E → W 31 0 = O → W 32 0 = abI E - shT O E wh → (∀ k, k < cols → W 26 k = wdT U N k ∧ W 27 k = vdT U N k ∧ W 28 k = plT U N E O (shT O E wh) wh k) → Q (jI (natP U N cols + E)) J L2) : wp_X7_run_73 G Sh m (iI i) (iI way) (iI by_) Q I L := by
  have vi : vp_in (iI (i : Int)) 6 := in_ok rfl hi (by omega); have ei : (iI (i : Int)).toNatClampNeg = i := nat_ok rfl (by omega)
  obtain ⟨oP, oG, oR, oI, oN⟩ := id hok
  have mc := mxE_cl oP oR hN
  obtain ⟨hE, hN480⟩ := EnOk_of oP oR hN
  have hc24 : cols ≤ 24 := by omega
  have hcl : (cols : Int) ≤ clT U := by omega
  have p2 := oP.2.1
  have hgl : ∀ c : Nat, c < cols → -10000 ≤ glT U c ∧ glT U c ≤ 10000 := fun c hc => gl_rng oG (by have := tOf_lt oP (U := U) (c := c) (by omega) h3; omega)
  have hr : ∀ k, k < cols → 0 ≤ wdT U N k ∧ wdT U N k ≤ 400000 := fun k hk => by
    obtain ⟨r1, r2, r3, r4⟩ := run_rng hE hgl k (by omega)
    unfold wdT
    split <;> omega
  have hr2 : ∀ k, k ≤ cols → -10000 ≤ gwT U N k ∧ gwT U N k ≤ 10000 := fun k hk => by
    unfold gwT
    split
    · have := oG 0 (by omega)
      omega
    · split
      · omega
      · exact hgl (k - 1) (by omega)
  have hnr := nat_rng hr hr2 cols (Nat.le_refl _)
  have hg : ∀ (E : Int) k, k ≤ cols → (0 ≤ gvT U N E k ∧ gvT U N E k ≤ 10000) ∧ 0 ≤ goT U E k ∧ goT U E k ≤ 3 := fun E k hk => gi_rng oG oP h3 (by omega) E N
  have hEr : -100000000 ≤ exT way by_ (natP U N cols) ∧ exT way by_ (natP U N cols) ≤ 100000000 := by
    unfold exT
    split
    · omega
    · split <;> omega
  have mrng : ∀ q : Nat, q ≤ N → 0 ≤ mxE U q ∧ mxE U q ≤ 24 := by
    intro q hq
    have h1 := mxE_up U 0 q
    have h2 := mxE_row (U := U) (q := 0) (B := 24) q (fun i hi => by rw [Nat.zero_add]; exact (hE i (by omega)).2.2.2.2.2)
    rw [Nat.zero_add] at h1 h2
    have e : mxE U 0 = U 4 0 := rfl
    rw [e] at h1 h2
    split at h2 <;> omega
  -- the end: the set width, one run more, the shares
  have f260 : ∀ (J : MI) (L1 : ML) (W : TS) (v : Int64), v = jI (natP U N cols + exT way by_ (natP U N cols)) → RM W m i J L1 → MF m i I L J L1 → Vb W U → W 24 0 = U 24 0 → W 25 0 = cols → CkM W U N cols → W 29 0 = natP U N cols → wp_X7_run_260 G Sh m (iI i) (iI way) (iI by_) Q v (iI i) J L1 := by
    intro J L1 W v ev r mf vb w24 w25 ck w29
    unfold wp_X7_run_260
    rw [ei, r.i24, w24, iI_1, iI_add]
    refine ⟨vi, fun L2 e2 => ⟨vi, vi, fun J2 e3 => ?_⟩⟩
    have r2 : RM (upT (upT W 30 0 (natP U N cols + exT way by_ (natP U N cols))) 24 0 (U 24 0 + 1)) m i J2 L2 := by
      rw [e3, e2]
      exact (r.setL 30 0 i _ rfl (by decide) (by simp [wid]) ev).set 24 0 i _ rfl (by decide) (by simp [wid]) rfl
    have mf2 : MF m i I L J2 L2 := by
      rw [e3, e2]
      exact (mf.mul 30 0 (by omega) (by decide) (by simp [wid])).mu 24 0 (by omega) (by decide) (by simp [wid])
    refine k_shareM (E := exT way by_ (natP U N cols)) (cols := cols) hi oP oG h3 hcl hc24 hr hEr (hg _) r2 ((vb.up (by decide)).up (by decide)) ?_ (fun k hk => ?_) ?_ (fun J3 L3 W3 O wh eO ewh r3 mf3 vb3 vf3 w31 w32 w28 => ⟨vi, ?_⟩)
    · rw [upT_miss (Or.inl (by decide)), upT_miss (Or.inl (by decide))]; exact w25
    · rw [upT_miss (Or.inl (by decide)), upT_miss (Or.inl (by decide)), upT_miss (Or.inl (by decide)), upT_miss (Or.inl (by decide))]
      exact ck k hk
    · rw [upT_miss (Or.inl (by decide)), upT_hit ⟨rfl, rfl⟩, upT_miss (Or.inl (by decide)), upT_miss (Or.inl (by decide)), w29]
      omega
    · have g : ∀ f, f ≠ 28 → f ≠ 31 → f ≠ 32 → f ≠ 24 → f ≠ 30 → W3 f = W f := fun f a1 a2 a3 a4 a5 => (vf3 f a1 a2 a3).trans ((upT_fn a4).trans (upT_fn a5))
      have w30 : W3 30 0 = natP U N cols + exT way by_ (natP U N cols) := by
        rw [vf3 30 (by decide) (by decide) (by decide), upT_miss (Or.inl (by decide)), upT_hit ⟨rfl, rfl⟩]
      rw [r3.i30, w30]
      refine hQ J3 L3 W3 _ O wh rfl eO ewh r3 (mf2.tr mf3) vb3 ?_ ?_ ?_ w30 w31 w32 (fun k hk => ?_)
      · rw [vf3 24 (by decide) (by decide) (by decide), upT_hit ⟨rfl, rfl⟩]
      · rw [g 25 (by decide) (by decide) (by decide) (by decide) (by decide)]; exact w25
      · rw [g 29 (by decide) (by decide) (by decide) (by decide) (by decide)]; exact w29
      · rw [g 26 (by decide) (by decide) (by decide) (by decide) (by decide), g 27 (by decide) (by decide) (by decide) (by decide) (by decide)]
        exact ⟨(ck k hk).1, (ck k hk).2, w28 k hk⟩
  -- the natural width
  have nat : ∀ (d c : Nat), c + d = cols → ∀ (J : MI) (L1 : ML) (W : TS), RM W m i J L1 → MF m i I L J L1 → Vb W U → W 24 0 = U 24 0 → W 25 0 = cols → CkM W U N cols → W 29 0 = natP U N c → wp_X7_run_174 G Sh m (iI i) (iI way) (iI by_) Q (d + 1) (iI cols) (iI c) J L1 := by
    intro d
    induction d with
    | zero =>
      intro c h1 J L1 W r mf vb w24 w25 ck w29
      show wb_X7_run_174 G Sh m (iI i) (iI way) (iI by_) Q _ _ _ J L1
      unfold wb_X7_run_174
      have ecl : c = cols := by omega
      rw [ecl] at w29
      rw [ei, r.i29, w29, iI_long hb]
      refine le_br rfl rfl (by omega) (by omega) (fun _ => ?_) (fun z => absurd (by omega) z)
      refine eq_br rfl iI_0 (by omega) (by omega) (fun z => ⟨vi, f260 J L1 W _ ?_ r mf vb w24 w25 ck w29⟩) (fun z => eq_br rfl iI_1 (by omega) (by omega) (fun z2 => f260 J L1 W _ ?_ r mf vb w24 w25 ck w29) (fun z2 => ⟨vi, f260 J L1 W _ ?_ r mf vb w24 w25 ck w29⟩))
      · unfold exT
        rw [if_pos z, Int.add_zero]
      · unfold exT
        rw [if_neg z, if_pos z2]
        congr 1
        omega
      · unfold exT
        rw [if_neg z, if_neg z2, jI_add]
    | succ d ih =>
      intro c h1 J L1 W r mf vb w24 w25 ck w29
      show wb_X7_run_174 G Sh m (iI i) (iI way) (iI by_) Q (wp_X7_run_174 G Sh m (iI i) (iI way) (iI by_) Q (d + 1)) _ _ J L1
      unfold wb_X7_run_174
      have hrc := hr c (by omega)
      have ecc : iI (c : Int) + (1 : Int32) = iI ((c + 1 : Nat) : Int) := by rw [iI_1, iI_add]; rfl
      rw [ei]
      refine le_br rfl rfl (by omega) (by omega) (fun z => absurd z (by omega)) (fun _ => ⟨vi, fun x47 e47 => ?_⟩)
      have e47 : x47 = iI ((24 * i + c : Nat) : Int) := by rw [e47]; exact ix_ok 24 i c
      refine ⟨in_ok e47 (by omega) (by omega), ?_⟩
      rw [ecc]
      refine k_wog r vb hi oP oG h3 hcl hc24 (by omega) ck ⟨vi, fun L2 e2 x54 e54 => ?_⟩
      rw [nat_ok e47 (by omega), r.i26 (by omega), (ck c (by omega)).1, r.i29, w29, iI_long (by omega), jI_add, jI_add] at e2
      rw [e54]
      refine ih (c + 1) (by omega) J L2 (upT W 29 0 (natP U N (c + 1))) ?_ (by rw [e2]; exact mf.mul 29 0 (by omega) (by decide) (by simp [wid])) (vb.up (by decide)) ?_ ?_ (fun k hk => ?_) (upT_hit ⟨rfl, rfl⟩)
      · rw [e2]
        refine r.setL 29 0 i _ rfl (by decide) (by simp [wid]) ?_
        congr 1
        show _ = natP U N c + (wdT U N c + gwT U N (c + 1))
        omega
      · rw [upT_miss (Or.inl (by decide))]; exact w24
      · rw [upT_miss (Or.inl (by decide))]; exact w25
      · rw [upT_miss (Or.inl (by decide)), upT_miss (Or.inl (by decide))]
        exact ck k hk
  -- the columns
  have cl84 : ∀ (d k : Nat), k + d = N → wp_X7_run_84 G Sh m (iI i) (iI way) (iI by_) Q (d + 1) (iI (mxE U k)) (iI k) I L := by
    intro d
    induction d with
    | zero =>
      intro k h1
      show wb_X7_run_84 G Sh m (iI i) (iI way) (iI by_) Q _ _ _ I L
      unfold wb_X7_run_84
      rw [ei, hR.i17, hN, show k = N by omega, hcols]
      refine ⟨vi, le_br rfl rfl (by omega) (by omega) (fun _ => ⟨vi, fun J1 e1 => ?_⟩) (fun z => absurd (by omega) z)⟩
      have r1 : RM (upT U 25 0 cols) m i J1 L := by rw [e1]; exact hR.set 25 0 i _ rfl (by decide) (by simp [wid]) rfl
      have mf1 : MF m i I L J1 L := by rw [e1]; exact MF.rf.mu 25 0 (by omega) (by decide) (by simp [wid])
      have vb1 : Vb (upT U 25 0 cols) U := Vb.up (fun _ _ => rfl) (by decide)
      refine k_fwM hi oP oG h3 hE hN480 hN hgl hcl hc24 r1 vb1 (upT_hit ⟨rfl, rfl⟩) (fun J2 W r2 mf2 vb2 vf2 ck => ?_)
      refine k_wog (p := 0) r2 vb2 hi oP oG h3 hcl hc24 (by omega) ck ⟨vi, fun L3 e3 => ⟨cols + 1, ?_⟩⟩
      refine nat cols 0 (by omega) J2 L3 (upT W 29 0 (natP U N 0)) ?_ ?_ (vb2.up (by decide)) ?_ ?_ (fun k hk => ?_) (upT_hit ⟨rfl, rfl⟩)
      · rw [e3]
        exact r2.setL 29 0 i _ rfl (by decide) (by simp [wid]) rfl
      · rw [e3]
        exact (mf1.tr mf2).mul 29 0 (by omega) (by decide) (by simp [wid])
      · rw [upT_miss (Or.inl (by decide)), vf2 24 (by decide) (by decide), upT_miss (Or.inl (by decide))]
      · rw [upT_miss (Or.inl (by decide)), vf2 25 (by decide) (by decide), upT_hit ⟨rfl, rfl⟩]
      · rw [upT_miss (Or.inl (by decide)), upT_miss (Or.inl (by decide))]
        exact ck k hk
    | succ d ih =>
      intro k h1
      show wb_X7_run_84 G Sh m (iI i) (iI way) (iI by_) Q (wp_X7_run_84 G Sh m (iI i) (iI way) (iI by_) Q (d + 1)) _ _ I L
      unfold wb_X7_run_84
      have hk480 : k < 480 := by omega
      have hm := mrng k (by omega)
      have hEk := hE k (by omega)
      have ih1 := ih (k + 1) (by omega)
      rw [mxE_succ] at ih1
      rw [ei, hR.i17, hN]
      refine ⟨vi, le_br rfl rfl (by omega) (by omega) (fun z => absurd z (by omega)) (fun _ x33 e33 => ?_)⟩
      have e33 : x33 = iI ((480 * i + k : Nat) : Int) := by rw [e33]; exact ix_ok 480 i k
      refine ⟨in_ok e33 (by omega) (by omega), fun x35 e35 => ?_⟩
      have e35 : x35 = iI ((480 * i + k : Nat) : Int) := by rw [e35]; exact ix_ok 480 i k
      refine ⟨in_ok e35 (by omega) (by omega), fun x37 e37 => ?_⟩
      rw [nat_ok e33 (by omega), nat_ok e35 (by omega), hR.i19 hk480, hR.i20 hk480, iI_add] at e37
      refine le_br e37 rfl (by omega) (by omega) (fun z x e => ?_) (fun z x e => ?_)
      · rw [e, iI_1, iI_add]
        rw [if_pos z] at ih1
        exact ih1
      · rw [e, e37, iI_1, iI_add]
        rw [if_neg z] at ih1
        exact ih1
  unfold wp_X7_run_73
  rw [ei, hR.i4]
  refine ⟨vi, fun x20 e20 => ⟨N + 1, ?_⟩⟩
  rw [e20]
  exact cl84 N 0 (by omega)
theorem s_run (h : Inv K G x m o Sh F I L n tb T) (hK : K ≤ 1000) : lawS_run G x m o (Rel (K + 1) G x m o) Sh F I L := by
  have hn := h.1.2.2.1; have hxm := h.1.1; have hmo := h.1.2.1
  unfold lawS_run
  intro q1 q2 q3
  obtain ⟨z, hz, rfl⟩ := iI_of q1
  obtain ⟨way, hw, rfl⟩ := iI_of q2
  obtain ⟨by_, hb, rfl⟩ := iI_of q3
  unfold wp_X6_run
  refine k_find h hz (fun hz0 => Or.inl ⟨rfl, ?_⟩) (fun i hi e => Or.inr ⟨tb i, rfl, (h.2.2.1 i hi).2, ?_⟩)
  · unfold wp_X7_run
    intro J e1; refine k_isT (by rw [e1, mu_miss (Or.inr (by omega))]; exact h.2.2.2.1.2) hn hz (fun _ => br_y rfl ⟨rfl, by rw [e1]; exact h.fault _⟩) (fun q => absurd q hz0)
  · subst e
    have hti := h.1.2.2.2.1 i hi
    have hT := (h.2.2.1 i hi).2
    obtain ⟨hC, hM, hok⟩ := h.2.2.2.2.1 i hi
    obtain ⟨cp, cg, cr, ci, cn⟩ := id hC
    obtain ⟨oP, oG, oR, oI, oN⟩ := id hok
    have p2 := oP.2.1
    have w2 := oR.2.1
    have w1 := oR.1
    have vi : vp_in (iI (i : Int)) 6 := in_ok rfl (by omega) (by omega)
    have ei : (iI (i : Int)).toNatClampNeg = i := nat_ok rfl (by omega)
    have hcf : CF (tb i) I L I L := CF.rf
    have fin : ∀ J : MI, J = mu I m 0 0 → Rel (K + 1) G x m o Sh F J L := fun J e1 => by rw [e1]; exact h.fault _
    unfold wp_X5_isAtRest
    refine eq_br cp.2.1 iI_0 (by omega) (by omega) (fun hl => br_y rfl ?_) (fun hl => eq_br cr.2.1 iI_0 (by omega) (by omega) (fun ho => br_n (by decide) ?_) (fun ho => br_y rfl ?_))
    · unfold wp_X7_run
      intro J e1; obtain ⟨hJ, mJ, cJ⟩ := h.mst hi hcf e1; refine k_isT cJ hn (by omega) (fun q => absurd ⟨by omega, by omega⟩ q) (fun _ => br_n (by decide) ?_)
      rw [ei]
      exact ⟨vi, eq_br hJ.i3 iI_0 (by omega) (by omega) (fun _ => ⟨rfl, fin _ e1⟩) (fun q => absurd hl q)⟩
    rotate_left
    · unfold wp_X7_run
      intro J e1; obtain ⟨hJ, mJ, cJ⟩ := h.mst hi hcf e1; refine k_isT cJ hn (by omega) (fun q => absurd ⟨by omega, by omega⟩ q) (fun _ => br_n (by decide) ?_)
      rw [ei]
      exact ⟨vi, eq_br hJ.i3 iI_0 (by omega) (by omega) (fun q => absurd q hl) (fun _ => ⟨vi, eq_br hJ.i14 iI_0 (by omega) (by omega) (fun q => absurd q ho) (fun _ => ⟨rfl, fin _ e1⟩)⟩)⟩
    have h3 : T i 3 0 = 1 := by omega
    obtain ⟨N, hN⟩ : ∃ N : Nat, T i 17 0 = (N : Int) := by
      refine ⟨(T i 17 0).toNat, ?_⟩
      rcases (show T i 13 0 = 0 ∨ 0 < T i 13 0 by omega) with q | q
      · have := oR.2.2.2.1 q
        omega
      · have R := oR.2.2.2.2.2 (T i 13 0 - 1).toNat (by omega)
        have R6 := R.2.2.2.2.2.1
        rw [if_neg (by omega)] at R6
        omega
    have mc := mxE_cl oP oR hN
    obtain ⟨cols, hcols⟩ : ∃ cols : Nat, mxE (T i) N = (cols : Int) := ⟨(mxE (T i) N).toNat, by omega⟩
    obtain ⟨hE, hN480⟩ := EnOk_of oP oR hN
    have hgl : ∀ c : Nat, c < cols → -10000 ≤ glT (T i) c ∧ glT (T i) c ≤ 10000 := fun c hc => gl_rng oG (by have := tOf_lt oP (U := T i) (c := c) (by omega) h3; omega)
    have hr : ∀ k, k < cols → 0 ≤ wdT (T i) N k ∧ wdT (T i) N k ≤ 400000 := fun k hk => by
      obtain ⟨r1, r2, r3, r4⟩ := run_rng hE hgl k (by omega)
      unfold wdT
      split <;> omega
    have hr2 : ∀ k, k ≤ cols → -10000 ≤ gwT (T i) N k ∧ gwT (T i) N k ≤ 10000 := fun k hk => by
      unfold gwT
      split
      · have := oG 0 (by omega)
        omega
      · split
        · omega
        · exact hgl (k - 1) (by omega)
    have hnr := nat_rng hr hr2 cols (Nat.le_refl _)
    -- the model's first tests
    have go : ∀ (Ic : MI) (Lc : ML) (Q : Int64 → MI → ML → Prop), CF (tb i) I L Ic Lc → (∀ J : MI, J = mu Ic m 0 0 → RM (T i) m i J Lc → MF m i Ic Lc J Lc → wp_X7_in G Sh (Int32.toInt64 (iI way)) (0 : Int64) (2 : Int64) J Lc (fun r_10 I_11 L_12 => (r_10 = 0 → Q (-2 : Int64) I_11 L_12) ∧ (¬ r_10 = 0 → (iI way ≤ 0 → wp_X7_run_73 G Sh m (iI i) (iI way) (iI by_) Q I_11 L_12) ∧ (¬ iI way ≤ 0 → wp_X7_in G Sh (Int32.toInt64 (iI by_)) (-1000000 : Int64) (1000000 : Int64) I_11 L_12 (fun r_15 I_16 L_17 => (r_15 = 0 → Q (-2 : Int64) I_16 L_17) ∧ (¬ r_15 = 0 → wp_X7_run_73 G Sh m (iI i) (iI way) (iI by_) Q I_16 L_17)))))) → wp_X7_run G Sh m (iI i) (iI way) (iI by_) Ic Lc Q := by
      intro Ic Lc Q hcf hq
      unfold wp_X7_run
      intro J e1
      obtain ⟨hJ, mJ, cJ⟩ := h.mst hi hcf e1
      refine k_isT cJ hn (by omega) (fun q => absurd ⟨by omega, by omega⟩ q) (fun _ => br_n (by decide) ?_)
      rw [ei]
      exact ⟨vi, eq_br hJ.i3 iI_0 (by omega) (by omega) (fun q => absurd q hl) (fun _ => ⟨vi, eq_br hJ.i14 iI_0 (by omega) (by omega) (fun _ => hq J e1 hJ mJ) (fun q => absurd ho q)⟩)⟩
    have e1m : (-1000000 : Int32) = iI (-1000000) := by decide
    have e1mL : (-1000000 : Int64) = jI (-1000000) := by decide
    -- a right call
    have fin2 : (0 ≤ way ∧ way ≤ 2) → (way = 0 ∨ -1000000 ≤ by_ ∧ by_ ≤ 1000000) → wp_X6_run_56 G Sh x F (iI i) (iI way) (iI by_) (fun r I1 L1 => wp_X7_run G Sh m (iI i) (iI way) (iI by_) I1 L1 (fun r2 I2 L2 => r = r2 ∧ Rel (K + 1) G x m o Sh F I2 L2)) (tb i) I L := by
      intro hw2 hb2
      unfold wp_X6_run_56
      refine k_setTable hC hok h3 hT hN hcols hw2 hb hb2 (fun J0 L0 E O wh eE eO ewh hO c7 c8 c11 d9 d10 d12 cc => ?_)
      have hcf0 : CF (tb i) I L J0 L0 := fun a ha => hO a (by omega)
      refine go J0 L0 _ hcf0 (fun J e1 hJ mJ => ?_)
      have f73 : wp_X7_run_73 G Sh m (iI i) (iI way) (iI by_) (fun r2 I2 L2 => jI (natP (T i) N cols + E) = r2 ∧ Rel (K + 1) G x m o Sh F I2 L2) J L0 := by
        refine k_runM (by omega) hok h3 hN hcols hw2 hb hb2 hJ (fun J3 L3 W E' O' wh' eE' eO' ewh' r3 mf3 vb w24 w25 w29 w30 w31 w32 ws => ?_)
        have e1' : E' = E := eE'.trans eE.symm
        subst e1'
        have e2' : O' = O := eO'.trans eO.symm
        subst e2'
        have e3' : wh' = wh := ewh'.trans ewh.symm
        subst e3'
        refine ⟨rfl, h.step hi W hcf0 ?_ (mJ.tr mf3) r3 ?_⟩
        · refine ⟨cp.cong (fun f h1 h2 => vb f (by omega)) (fun a _ _ => (hO a (by omega)).1), cg.cong (fun f h1 h2 => vb f (by omega)) (fun a _ _ => (hO a (by omega)).1), cr.cong (fun f h1 h2 _ => vb f (by omega)) (by rw [(hO _ (by omega)).1]) (by rw [(hO _ (by omega)).1]) (fun a _ _ => (hO a (by omega)).1), ci.cong (fun f h1 h2 => vb f (by omega)) (by rw [(hO _ (by omega)).1]) (by rw [(hO _ (by omega)).1]) (hO _ (by omega)).1, ?_⟩
          refine ⟨by rw [w24]; exact c7, by rw [w25]; exact c8, fun c hc => ?_, by rw [w29]; exact d9, ?_, by rw [w31]; exact c11, by rw [w32]; exact d12⟩
          · rw [w25] at hc
            obtain ⟨s1, s2, s3⟩ := ws c (by omega)
            rw [s1, s2, s3]
            exact cc c (by omega)
          · rw [w30, w29, d10]
            congr 1
            omega
        · have hEr : -20000000 ≤ E' ∧ E' ≤ 20000000 := by
            rw [eE]
            unfold exT
            split
            · omega
            · split <;> omega
          refine ⟨oP.cong (fun f h1 h2 => vb f (by omega)), oG.cong (fun f h1 h2 => vb f (by omega)), oR.cong (fun f h1 h2 _ => vb f (by omega)), oI.cong (by rw [vb 13 (by decide)]) (fun f h1 h2 => vb f (by omega)), ?_⟩
          unfold OkN
          rw [w24, w25, w29, w30]
          have n1 := oN.1
          refine ⟨by omega, fun q => absurd q (by omega), by omega, fun c hc => ?_, by omega, by omega⟩
          obtain ⟨s1, s2, s3⟩ := ws c (by omega)
          have := hr c (by omega)
          rw [s1, s2]
          refine ⟨by omega, by omega, ?_⟩
          unfold vdT
          split <;> omega
      refine k_in (iI_long hw) jI_0 jI_2 (by omega) (by omega) (by omega) (fun q => absurd hw2 q) (fun _ => br_n (by decide) ?_)
      refine le_br rfl iI_0 (by omega) (by omega) (fun _ => f73) (fun z => ?_)
      exact k_in (iI_long hb) e1mL jI_1000000 (by omega) (by omega) (by omega) (fun q => absurd (by omega) q) (fun _ => br_n (by decide) f73)
    refine k_isIn rfl iI_0 iI_2 hw (by omega) (by omega) (fun hc => br_y rfl ?_) (fun hc => br_n (by decide) ?_)
    · refine go I L _ hcf (fun J e1 hJ mJ => ?_)
      exact k_in (iI_long hw) jI_0 jI_2 (by omega) (by omega) (by omega) (fun _ => br_y rfl ⟨rfl, fin _ e1⟩) (fun q => absurd q hc)
    · refine eq_br rfl iI_0 (by omega) (by omega) (fun q => fin2 hc (Or.inl q)) (fun q => ?_)
      refine k_isIn rfl e1m iI_1000000 hb (by omega) (by omega) (fun hc2 => br_y rfl ?_) (fun hc2 => br_n (by decide) (fin2 hc (Or.inr hc2)))
      refine go I L _ hcf (fun J e1 hJ mJ => ?_)
      refine k_in (iI_long hw) jI_0 jI_2 (by omega) (by omega) (by omega) (fun z => absurd hc z) (fun _ => br_n (by decide) ?_)
      refine le_br rfl iI_0 (by omega) (by omega) (fun z => absurd z (by omega)) (fun _ => ?_)
      exact k_in (iI_long hb) e1mL jI_1000000 (by omega) (by omega) (by omega) (fun _ => br_y rfl ⟨rfl, fin _ e1⟩) (fun z => absurd z hc2)
end RUN
