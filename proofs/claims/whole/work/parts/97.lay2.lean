section LY3
variable {K : Nat} {G : GX} {x m o n : Nat} {Sh : SH} {F : Nat → Option Nat} {I I0 I1 I2 : MI} {L L1 L2 : ML} {tb : Nat → Nat} {T : Nat → TS}
theorem k_read39 {U : TS} {i len : Nat} {R : Sc} {Q : MI → ML → Prop} (hi : i < 6) (hU : SgOk U len)
    (kb : ∀ (w : Nat) (J : MI) (V : TS), R.1 = some w → RM V m i J L → MF m i I L J L → (∀ f, f ≠ 6 → f ≠ 7 → V f = U f) → J m 37 = iI w → Q J L)
    (kk : ∀ (J : MI) (V : TS), R.1 = none → RM V m i J L → MF m i I L J L → (∀ f, f ≠ 4 → f ≠ 5 → f ≠ 6 → f ≠ 7 → V f = U f) → V 4 0 = R.2.1 → V 5 0 = R.2.2.1 → (∀ k, k < R.2.1 → V 6 k = R.2.2.2.1 k ∧ V 7 k = R.2.2.2.2 k) → J m 37 = iI (-1) → Q J L) :
    ∀ (fu a N : Nat) (rep : Int) (bf bh : Nat → Int) (V : TS) (J : MI), len + 1 - a ≤ fu → a ≤ len → N ≤ 11 → -1 ≤ rep ∧ rep ≤ N → RM V m i J L → MF m i I L J L → (∀ f, f ≠ 6 → f ≠ 7 → V f = U f) → (∀ k, k < N → V 6 k = bf k ∧ V 7 k = bh k) → (∀ k, N ≤ k → bf k = 0 ∧ bh k = 0) → J m 36 = iI a → J m 37 = iI (-1) → (a < len → U 1 a = 38 → rep ≠ -1) → scan (U 1) len (len - a) a false (N + 1) rep bf bh = R → wp_X7_readAll_39 G Sh m (iI i) Q (fu + 1) (iI N) (iI rep) 1 J L := by
  have vi : vp_in (iI (i : Int)) 6 := in_ok rfl hi (by omega)
  have ei : (iI (i : Int)).toNatClampNeg = i := nat_ok rfl (by omega)
  intro fu
  induction fu with
  | zero =>
    intro a N rep bf bh V J h1 h2
    omega
  | succ fu ih =>
    intro a N rep bf bh V J h1 h2 h3 h4 hR mJ hV hd hz h36 h37 hG hsc
    have hl40 := hU.2.1
    have hVs : SgOk V len := by
      unfold SgOk
      rw [hV 1 (by decide) (by decide), hV 2 (by decide) (by decide)]
      exact hU
    have tpV : V 1 = U 1 := hV 1 (by decide) (by decide)
    show wb_X7_readAll_39 G Sh m (iI i) Q (wp_X7_readAll_39 G Sh m (iI i) Q (fu + 1)) _ _ _ J L
    unfold wb_X7_readAll_39
    refine br_n (by decide) ?_
    unfold wp_X7_passLetters
    refine ⟨(len - a) + 1, k_pass hi hVs (len - a) a 0 J (by omega) hR h36 (fun J1 a1 v1 g1 g2 g3 g4 gR gM g36 g37 gs => ?_)⟩
    rw [tpV] at g3 g4 gs
    have mJ1 := mJ.tr gM
    have hsc1 := (gs false (N + 1) rep bf bh).symm.trans hsc
    simp only [Bool.false_eq_true, if_false, Nat.add_sub_cancel] at hsc1
    -- a wrong place
    have wrong : ∀ (J3 : MI) (a3 : Nat) (V3 : TS), R.1 = some a3 → RM V3 m i J3 L → MF m i I L J3 L → (∀ f, f ≠ 6 → f ≠ 7 → V3 f = U f) → J3 m 36 = iI a3 → ∀ J4 : MI, J4 = mu J3 m 37 (J3 m 36) → Q J4 L := by
      intro J3 a3 V3 e r mf vf e36 J4 e4
      exact kb a3 J4 V3 e (by rw [e4]; exact r.out (by omega)) (by rw [e4]; exact mf.fld (by decide)) vf (by rw [e4, e36]; exact mu_hit ⟨rfl, rfl⟩)
    refine k_sign gR hi hVs g36 g2 (fun v hv hv0 => ?_)
    rw [tpV] at hv
    rcases Nat.lt_or_ge a1 len with q1 | q1
    rotate_left
    · rw [hv0 q1]
      refine eq_br rfl iI_35 (by omega) (by omega) (fun q => absurd q (by decide)) (fun _ => wrong J1 a1 V ?_ gR mJ1 hV g36)
      rw [← hsc1, show len - a1 = 0 by omega, scan]
      show some len = some a1
      rw [show len = a1 by omega]
    have hv := hv q1
    rw [hv]
    have s1 := g4 q1
    obtain ⟨d1, hd1⟩ : ∃ d1, len - a1 = d1 + 1 := ⟨len - a1 - 1, by omega⟩
    rw [hd1] at hsc1
    refine eq_br rfl iI_35 (by omega) (by omega) (fun c1 => ?_) (fun c1 => ?_)
    rotate_left
    · refine wrong J1 a1 V ?_ gR mJ1 hV g36
      have c2 : U 1 a1 = 38 := by omega
      rw [(scan_amp c2).2, if_neg ?_] at hsc1
      · rw [← hsc1]
      · rintro ⟨z1, z2⟩
        rcases g3 with g3 | g3
        · subst g3
          exact hG q1 c2 z1
        · rcases z2 with z2 | z2
          · rw [z2] at g3 c2
            have : (0 : Nat) - 1 = 0 := rfl
            rw [this] at g3
            omega
          · omega
    -- the mark
    intro J2 e2
    rw [g36, iI_1, iI_add] at e2
    rw [(scan_hash c1).2] at hsc1
    have e12 : (12 : Int32) * iI i + iI N = iI ((12 * i + N : Nat) : Int) := ix_ok 12 i N
    have v12 : vp_in (iI ((12 * i + N : Nat) : Int)) 72 := in_ok rfl (by omega) (by omega)
    rw [e12, nat_ok rfl (by omega)]
    refine ⟨v12, fun J3 e3 => ?_⟩
    have r2 : RM V m i J2 L := by rw [e2]; exact gR.out (by omega)
    have mJ2 : MF m i I L J2 L := by rw [e2]; exact mJ1.fld (by decide)
    have r3 : RM (upT V 6 N (0 + v1)) m i J3 L := by rw [e3]; exact r2.set 6 N _ _ rfl (show N < 12 by omega) rfl rfl
    have mJ3 : MF m i I L J3 L := by rw [e3]; exact mJ2.mu 6 N (by omega) (show N < 12 by omega) rfl
    have f36 : J3 m 36 = iI ((a1 + 1 : Nat) : Int) := by rw [e3, mu_miss (Or.inl (by omega)), e2, mu_hit ⟨rfl, rfl⟩]; rfl
    have f37 : J3 m 37 = iI (-1) := by rw [e3, mu_miss (Or.inl (by omega)), e2, mu_miss (Or.inr (by decide)), g37, h37]
    have hV3 : ∀ f, f ≠ 6 → f ≠ 7 → upT V 6 N (0 + v1) f = U f := fun f z1 z2 => (upT_fn z1).trans (hV f z1 z2)
    have hVs3 : SgOk (upT V 6 N (0 + v1)) len := by
      unfold SgOk
      rw [hV3 1 (by decide) (by decide), hV3 2 (by decide) (by decide)]
      exact hU
    refine ⟨(len - (a1 + 1)) + 1, k_pass hi hVs3 (len - (a1 + 1)) (a1 + 1) 0 J3 (by omega) r3 f36 (fun J4 a2 v2 w1 w2 w3 w4 wR wM w36 w37 ws => ⟨v12, fun J5 e5 x28 e28 => ?_⟩)⟩
    rw [hV3 1 (by decide) (by decide)] at w3 w4 ws
    have mJ4 := mJ3.tr wM
    rw [show d1 = len - (a1 + 1) by omega, ws true (N + 1) rep (addL N bf v1) bh] at hsc1
    simp only [if_true, Nat.add_sub_cancel] at hsc1
    have r5 : RM (upT (upT V 6 N (0 + v1)) 7 N (0 + v2)) m i J5 L := by rw [e5]; exact wR.set 7 N _ _ rfl (show N < 12 by omega) rfl rfl
    have mJ5 : MF m i I L J5 L := by rw [e5]; exact mJ4.mu 7 N (by omega) (show N < 12 by omega) rfl
    have y36 : J5 m 36 = iI a2 := by rw [e5, mu_miss (Or.inl (by omega)), w36]
    have y37 : J5 m 37 = iI (-1) := by rw [e5, mu_miss (Or.inl (by omega)), w37, f37]
    obtain ⟨W, hW⟩ : ∃ W : TS, W = upT (upT V 6 N (0 + v1)) 7 N (0 + v2) := ⟨_, rfl⟩
    rw [← hW] at r5
    have hVW : ∀ f, f ≠ 6 → f ≠ 7 → W f = U f := fun f z1 z2 => by rw [hW]; exact (upT_fn z2).trans ((upT_fn z1).trans (hV f z1 z2))
    have hVsW : SgOk W len := by
      unfold SgOk
      rw [hVW 1 (by decide) (by decide), hVW 2 (by decide) (by decide)]
      exact hU
    have hdW : ∀ k, k < N + 1 → W 6 k = addL N bf v1 k ∧ W 7 k = addL N bh v2 k := by
      intro k hk
      rw [hW]
      unfold addL
      by_cases q : k = N
      · subst q
        have := hz k (by omega)
        rw [upT_miss (Or.inl (by decide)), upT_hit ⟨rfl, rfl⟩, upT_hit ⟨rfl, rfl⟩, if_pos rfl, if_pos rfl]
        omega
      · have := hd k (by omega)
        rw [upT_miss (Or.inl (by decide)), upT_miss (Or.inr q), upT_miss (Or.inr q), upT_miss (Or.inl (by decide)), if_neg q, if_neg q]
        exact this
    have hzW : ∀ k, N + 1 ≤ k → addL N bf v1 k = 0 ∧ addL N bh v2 k = 0 := by
      intro k hk
      unfold addL
      rw [if_neg (by omega), if_neg (by omega)]
      exact hz k (by omega)
    rw [iI_1, iI_add] at e28
    rw [e28]
    refine k_sign r5 hi hVsW y36 w2 (fun v hv hv0 => ?_)
    rw [hVW 1 (by decide) (by decide)] at hv
    rcases Nat.lt_or_ge a2 len with q2 | q2
    rotate_left
    · -- the end of the tape
      rw [hv0 q2]
      refine eq_br rfl iI_38 (by omega) (by omega) (fun q => absurd q (by decide)) (fun _ => ?_)
      unfold wp_X7_readAll_127
      refine br_y rfl ⟨vi, ?_⟩
      rw [ei, y36, r5.i2, hVW 2 (by decide) (by decide), hU.1]
      refine lt_br rfl rfl (by omega) (by have := hU.2.1; omega) (fun q => absurd q (by omega)) (fun _ => ?_)
      unfold wp_X7_readAll_147
      refine br_y rfl ?_
      unfold wp_X7_readAll_167
      refine br_y rfl ?_
      unfold wp_X7_readAll_186
      intro J6 e6
      refine br_y rfl ?_
      have r6 : RM W m i J6 L := by rw [e6]; exact r5.out (by omega)
      have mJ6 : MF m i I L J6 L := by rw [e6]; exact mJ5.fld (by decide)
      show wb_X7_readAll_39 G Sh m (iI i) Q (wp_X7_readAll_39 G Sh m (iI i) Q fu) _ _ _ J6 L
      unfold wb_X7_readAll_39
      refine br_y rfl ⟨vi, fun J7 e7 => ⟨vi, fun J8 e8 => ?_⟩⟩
      rw [ei] at e7 e8
      have r8 : RM (upT (upT W 4 0 (N + 1)) 5 0 rep) m i J8 L := by
        rw [e8, e7]
        exact (r6.set 4 0 i _ rfl (by decide) (by simp [wid]) rfl).set 5 0 i _ rfl (by decide) (by simp [wid]) rfl
      have mJ8 : MF m i I L J8 L := by
        rw [e8, e7]
        exact (mJ6.mu 4 0 (by omega) (by decide) (by simp [wid])).mu 5 0 (by omega) (by decide) (by simp [wid])
      have hR : R = (none, N + 1, rep, addL N bf v1, addL N bh v2) := by
        rw [← hsc1, show len - a2 = 0 by omega, scan]
        rfl
      refine kk J8 _ (by rw [hR]) r8 mJ8 (fun f z4 z5 z6 z7 => (upT_fn z5).trans ((upT_fn z4).trans (hVW f z6 z7))) ?_ ?_ (fun k hk => ?_) ?_
      · rw [hR, upT_miss (Or.inl (by decide)), upT_hit ⟨rfl, rfl⟩]
        rfl
      · rw [hR, upT_hit ⟨rfl, rfl⟩]
      · rw [hR] at hk ⊢
        rw [upT_miss (Or.inl (by decide)), upT_miss (Or.inl (by decide)), upT_miss (Or.inl (by decide)), upT_miss (Or.inl (by decide))]
        exact hdW k hk
      · rw [e8, mu_miss (Or.inl (by omega)), e7, mu_miss (Or.inl (by omega)), e6, mu_miss (Or.inr (by decide)), y37]
    have hv := hv q2
    rw [hv]
    have s2 := w4 q2
    obtain ⟨d2, hd2⟩ : ∃ d2, len - a2 = d2 + 1 := ⟨len - a2 - 1, by omega⟩
    rw [hd2] at hsc1
    refine eq_br rfl iI_38 (by omega) (by omega) (fun c2 => ?_) (fun c2 => ?_)
    rotate_left
    · -- a second mark
      unfold wp_X7_readAll_127
      refine br_y rfl ⟨vi, ?_⟩
      rw [ei, y36, r5.i2, hVW 2 (by decide) (by decide), hU.1]
      refine lt_br rfl rfl (by omega) (by have := hU.2.1; omega) (fun _ J6 e6 => ?_) (fun q => absurd (by omega) q)
      rw [← y36] at e6
      refine wrong J5 a2 W ?_ r5 mJ5 hVW y36 J6 e6
      rw [← hsc1, (scan_hash (by omega)).1]
    unfold wp_X7_readAll_127
    refine br_n (by decide) ?_
    unfold wp_X7_readAll_147
    refine br_n (by decide) ?_
    rw [(scan_amp c2).1] at hsc1
    refine eq_br (a := (N : Int) + 1) rfl iI_12 (by omega) (by omega) (fun q => ?_) (fun q => ?_)
    · rw [if_neg (by omega)] at hsc1
      exact fun J6 e6 => wrong J5 a2 W (by rw [← hsc1]) r5 mJ5 hVW y36 J6 e6
    rw [if_pos (by omega)] at hsc1
    unfold wp_X7_readAll_167
    refine br_n (by decide) ?_
    unfold wp_X7_readAll_186
    intro J6 e6
    rw [y36, iI_1, iI_add] at e6
    refine br_n (by decide) ?_
    have r6 : RM W m i J6 L := by rw [e6]; exact r5.out (by omega)
    have mJ6 : MF m i I L J6 L := by rw [e6]; exact mJ5.fld (by decide)
    have z36 : J6 m 36 = iI ((a2 + 1 : Nat) : Int) := by rw [e6, mu_hit ⟨rfl, rfl⟩]; rfl
    have z37 : J6 m 37 = iI (-1) := by rw [e6, mu_miss (Or.inr (by decide)), y37]
    refine k_sign r6 hi hVsW z36 (by omega) (fun v hv' hv0' => ?_)
    rw [hVW 1 (by decide) (by decide)] at hv'
    have rv : -2147483648 ≤ v ∧ v < 2147483648 := by
      rcases Nat.lt_or_ge (a2 + 1) len with q3 | q3
      · have := hv' q3
        have := hU.2.2 (a2 + 1) q3
        omega
      · have := hv0' q3
        omega
    have d2' : d2 = len - (a2 + 1) := by omega
    refine eq_br rfl iI_38 rv (by omega) (fun c3 => ?_) (fun c3 => ?_)
    · have q3 : a2 + 1 < len := by
        rcases Nat.lt_or_ge (a2 + 1) len with q3 | q3
        · exact q3
        · have := hv0' q3
          omega
      have c3 : U 1 (a2 + 1) = 38 := by rw [← hv' q3]; exact c3
      obtain ⟨d3, hd3⟩ : ∃ d3, d2 = d3 + 1 := ⟨d2 - 1, by omega⟩
      rw [hd3, (scan_amp c3).2] at hsc1
      refine lt_br rfl iI_0 (by omega) (by omega) (fun z J7 e7 => ?_) (fun z J7 e7 => ?_)
      · rw [if_pos ⟨by omega, Or.inr (by rw [Nat.add_sub_cancel]; exact c2)⟩] at hsc1
        rw [z36, iI_1, iI_add] at e7
        refine ih (a2 + 2) (N + 1) ((N + 1 : Nat) : Int) _ _ W J7 (by omega) (by omega) (by omega) (by omega) (by rw [e7]; exact r6.out (by omega)) (by rw [e7]; exact mJ6.fld (by decide)) hVW hdW hzW (by rw [e7, mu_hit ⟨rfl, rfl⟩]; rfl) (by rw [e7, mu_miss (Or.inr (by decide)), z37]) (fun _ _ => by omega) ?_
        rw [← hsc1, show len - (a2 + 2) = d3 by omega]
        congr 1
        omega
      · rw [if_neg (by omega)] at hsc1
        exact wrong J6 (a2 + 1) W (by rw [← hsc1]) r6 mJ6 hVW z36 J7 e7
    · refine ih (a2 + 1) (N + 1) rep _ _ W J6 (by omega) (by omega) (by omega) (by omega) r6 mJ6 hVW hdW hzW z36 z37 (fun q3 c4 => absurd (by rw [hv' q3]; exact c4) c3) ?_
      rw [← hsc1, d2']
theorem k_layM {U : TS} {i : Nat} {Q : Int32 → MI → ML → Prop} (hM : RM U m i I L) (hi : i < 6) (oP : OkP U) (k3 : ¬ U 3 0 = 0 → Q (-3) I L)
    (kb : U 3 0 = 0 → ∀ (w : Nat) (J : MI) (V : TS), (scanR U).1 = some w → RM V m i J L → MF m i I L J L → (∀ f, f ≠ 2 → f ≠ 6 → f ≠ 7 → V f = U f) → V 2 0 = 0 → Q (iI (-10 - (w : Int))) J L)
    (kk : U 3 0 = 0 → ∀ (J : MI) (V : TS), (scanR U).1 = none → RM V m i J L → MF m i I L J L → (∀ f, f ≠ 3 → f ≠ 4 → f ≠ 5 → f ≠ 6 → f ≠ 7 → V f = U f) → V 3 0 = 1 → V 4 0 = (scanR U).2.1 → V 5 0 = (scanR U).2.2.1 → (∀ k, k < (scanR U).2.1 → V 6 k = (scanR U).2.2.2.1 k ∧ V 7 k = (scanR U).2.2.2.2 k) → Q (iI (scanR U).2.1) J L) :
    vp_in (iI i) 6 ∧ ((I (m + 3) (iI i).toNatClampNeg) = 0 → wp_X7_readAll G Sh m (iI i) I L (fun I_9 L_10 => ((I_9 m 37) < 0 → vp_in (iI i) 6 ∧ ∀ I_13 : MI, I_13 = mu I_9 (m + 3) (iI i).toNatClampNeg (1 : Int32) → vp_in (iI i) 6 ∧ Q (I_13 (m + 4) (iI i).toNatClampNeg) I_13 L_10) ∧ (¬ (I_9 m 37) < 0 → vp_in (iI i) 6 ∧ ∀ I_16 : MI, I_16 = mu I_9 (m + 2) (iI i).toNatClampNeg (0 : Int32) → Q ((-10 : Int32) - (I_16 m 37)) I_16 L_10))) ∧ (¬ (I (m + 3) (iI i).toNatClampNeg) = 0 → Q (-3 : Int32) I L) := by
  have vi : vp_in (iI (i : Int)) 6 := in_ok rfl hi (by omega)
  have ei : (iI (i : Int)).toNatClampNeg = i := nat_ok rfl (by omega)
  have p1 := oP.1
  have p2 := oP.2.1
  obtain ⟨len, hlen⟩ : ∃ len : Nat, U 2 0 = (len : Int) := ⟨(U 2 0).toNat, by omega⟩
  have eR : scanR U = scan (U 1) len len 0 false 1 (-1) (fun _ => 0) (fun _ => 0) := by
    unfold scanR
    rw [hlen]
    rfl
  have hU : SgOk U len := ⟨hlen, by omega, fun k hk => oP.2.2.1 k (by omega)⟩
  rw [ei]
  refine ⟨vi, eq_br hM.i3 iI_0 (by omega) (by omega) (fun hl => ?_) k3⟩
  unfold wp_X7_readAll
  intro J1 e1 J2 e2
  have r2 : RM U m i J2 L := by rw [e2, e1]; exact (hM.out (by omega)).out (by omega)
  have m2 : MF m i I L J2 L := by rw [e2, e1]; exact (MF.rf.fld (by decide)).fld (by decide)
  have h36 : J2 m 36 = iI ((0 : Nat) : Int) := by rw [e2, mu_miss (Or.inr (by decide)), e1, mu_hit ⟨rfl, rfl⟩]; rfl
  have h37 : J2 m 37 = iI (-1) := by rw [e2, mu_hit ⟨rfl, rfl⟩]; decide
  -- what follows the reading
  have fb : ∀ (w : Nat) (J : MI) (V : TS), (scanR U).1 = some w → RM V m i J L → MF m i I L J L → (∀ f, f ≠ 6 → f ≠ 7 → V f = U f) → J m 37 = iI w → ((J m 37) < 0 → vp_in (iI i) 6 ∧ ∀ I_13 : MI, I_13 = mu J (m + 3) i (1 : Int32) → vp_in (iI i) 6 ∧ Q (I_13 (m + 4) i) I_13 L) ∧ (¬ (J m 37) < 0 → vp_in (iI i) 6 ∧ ∀ I_16 : MI, I_16 = mu J (m + 2) i (0 : Int32) → Q ((-10 : Int32) - (I_16 m 37)) I_16 L) := by
    intro w J V hw r mf vf e37
    have hwl : w ≤ len := by
      rw [eR] at hw
      exact scan_w len 0 false 1 (-1) (fun _ => 0) (fun _ => 0) (by omega) hw
    refine lt_br e37 iI_0 (by omega) (by omega) (fun q => absurd q (by omega)) (fun _ => ⟨vi, fun J3 e3 => ?_⟩)
    rw [show J3 m 37 = iI w by rw [e3, mu_miss (Or.inl (by omega)), e37], show (-10 : Int32) = iI (-10) by decide, iI_sub]
    refine kb hl w J3 (upT V 2 0 0) hw (by rw [e3]; exact r.set 2 0 i 0 rfl (by decide) (by simp [wid]) rfl) (by rw [e3]; exact mf.mu 2 0 (by omega) (by decide) (by simp [wid])) (fun f z2 z6 z7 => (upT_fn z2).trans (vf f z6 z7)) (upT_hit ⟨rfl, rfl⟩)
  have fk : ∀ (J : MI) (V : TS), (scanR U).1 = none → RM V m i J L → MF m i I L J L → (∀ f, f ≠ 4 → f ≠ 5 → f ≠ 6 → f ≠ 7 → V f = U f) → V 4 0 = (scanR U).2.1 → V 5 0 = (scanR U).2.2.1 → (∀ k, k < (scanR U).2.1 → V 6 k = (scanR U).2.2.2.1 k ∧ V 7 k = (scanR U).2.2.2.2 k) → J m 37 = iI (-1) → ((J m 37) < 0 → vp_in (iI i) 6 ∧ ∀ I_13 : MI, I_13 = mu J (m + 3) i (1 : Int32) → vp_in (iI i) 6 ∧ Q (I_13 (m + 4) i) I_13 L) ∧ (¬ (J m 37) < 0 → vp_in (iI i) 6 ∧ ∀ I_16 : MI, I_16 = mu J (m + 2) i (0 : Int32) → Q ((-10 : Int32) - (I_16 m 37)) I_16 L) := by
    intro J V hw r mf vf v4 v5 v67 e37
    refine lt_br e37 iI_0 (by omega) (by omega) (fun _ => ⟨vi, fun J3 e3 => ⟨vi, ?_⟩⟩) (fun q => absurd (by omega) q)
    have r3 : RM (upT V 3 0 1) m i J3 L := by rw [e3]; exact r.set 3 0 i 1 rfl (by decide) (by simp [wid]) rfl
    rw [r3.i4, upT_miss (Or.inl (by decide)), v4]
    refine kk hl J3 (upT V 3 0 1) hw r3 (by rw [e3]; exact mf.mu 3 0 (by omega) (by decide) (by simp [wid])) (fun f z3 z4 z5 z6 z7 => (upT_fn z3).trans (vf f z4 z5 z6 z7)) (upT_hit ⟨rfl, rfl⟩) ?_ ?_ (fun k hk => ?_)
    · rw [upT_miss (Or.inl (by decide)), v4]
    · rw [upT_miss (Or.inl (by decide)), v5]
    · rw [upT_miss (Or.inl (by decide)), upT_miss (Or.inl (by decide))]
      exact v67 k hk
  refine k_sign r2 hi hU h36 (by omega) (fun v hv hv0 => ?_)
  have rv : -2147483648 ≤ v ∧ v < 2147483648 := by
    rcases Nat.lt_or_ge 0 len with q3 | q3
    · have := hv q3
      have := hU.2.2 0 q3
      omega
    · have := hv0 q3
      omega
  refine eq_br rfl iI_38 rv (by omega) (fun c1 J3 e3 => ?_) (fun c1 => ?_)
  · have q3 : 0 < len := by
      rcases Nat.lt_or_ge 0 len with q3 | q3
      · exact q3
      · have := hv0 q3
        omega
    have c1 : U 1 0 = 38 := by rw [← hv q3]; exact c1
    rw [h36, iI_1, iI_add] at e3
    obtain ⟨d, hd⟩ : ∃ d, len = d + 1 := ⟨len - 1, by omega⟩
    refine ⟨len + 2, k_read39 hi hU (R := scanR U) (I := I) (fun w J V hw r mf vf e37 => fb w J V hw r mf vf e37) (fun J V hw r mf vf v4 v5 v67 e37 => fk J V hw r mf vf v4 v5 v67 e37) (len + 1) 1 0 0 (fun _ => 0) (fun _ => 0) U J3 (by omega) (by omega) (by omega) (by omega) (by rw [e3]; exact r2.out (by omega)) (by rw [e3]; exact m2.fld (by decide)) (fun _ _ _ => rfl) (fun k hk => absurd hk (by omega)) (fun _ _ => ⟨rfl, rfl⟩) (by rw [e3, mu_hit ⟨rfl, rfl⟩]; rfl) (by rw [e3, mu_miss (Or.inr (by decide)), h37]) (fun _ _ => by decide) ?_⟩
    rw [eR, hd, (scan_amp c1).2, if_pos ⟨rfl, Or.inl rfl⟩]
    rfl
  · refine ⟨len + 2, k_read39 hi hU (R := scanR U) (I := I) (fun w J V hw r mf vf e37 => fb w J V hw r mf vf e37) (fun J V hw r mf vf v4 v5 v67 e37 => fk J V hw r mf vf v4 v5 v67 e37) (len + 1) 0 0 (-1) (fun _ => 0) (fun _ => 0) U J2 (by omega) (by omega) (by omega) (by omega) r2 m2 (fun _ _ _ => rfl) (fun k hk => absurd hk (by omega)) (fun _ _ => ⟨rfl, rfl⟩) h36 h37 (fun q3 c4 => absurd (by rw [hv q3]; exact c4) c1) ?_⟩
    rw [eR]
    rfl
theorem s_lay (h : Inv K G x m o Sh F I L n tb T) : lawS_lay G x m o (Rel (K + 1) G x m o) Sh F I L := by
  have hn := h.1.2.2.1; have hxm := h.1.1; have hmo := h.1.2.1
  unfold lawS_lay
  intro q1
  obtain ⟨z, hz, rfl⟩ := iI_of q1
  unfold wp_X6_lay
  refine k_find h hz (fun hz0 => Or.inl ⟨rfl, ?_⟩) (fun i hi e => Or.inr ⟨tb i, rfl, (h.2.2.1 i hi).2, ?_⟩)
  · unfold wp_X7_lay
    intro J e1; refine k_isT (by rw [e1, mu_miss (Or.inr (by omega))]; exact h.2.2.2.1.2) hn hz (fun _ => br_y rfl ⟨rfl, by rw [e1]; exact h.fault _⟩) (fun q => absurd q hz0)
  · subst e
    have hti := h.1.2.2.2.1 i hi
    obtain ⟨hC, hM, hok⟩ := h.2.2.2.2.1 i hi
    obtain ⟨cp, cg, cr, ci, cn⟩ := id hC
    obtain ⟨oP, oG, oR, oI, oN⟩ := id hok
    have p1 := oP.1
    have p2 := oP.2.1
    have hcf : CF (tb i) I L I L := CF.rf
    refine k_readC hC oP (fun hl => ?_) (fun hl w J0 hw hcf0 off hJ => ?_) (fun hl J0 hw hcf0 off hJ => ?_)
    · unfold wp_X7_lay
      intro J e1; obtain ⟨hJ, mJ, cJ⟩ := h.mst hi hcf e1; refine k_isT cJ hn (by omega) (fun q => absurd ⟨by omega, by omega⟩ q) (fun _ => br_n (by decide) ?_)
      exact k_layM (Q := fun r2 I2 L2 => -3 = r2 ∧ Rel (K + 1) G x m o Sh F I2 L2) hJ (by omega) oP (fun _ => ⟨rfl, by rw [e1]; exact h.fault _⟩) (fun q => absurd q hl) (fun q => absurd q hl)
    · unfold wp_X7_lay
      intro J e1
      obtain ⟨hJ2, mJ, cJ⟩ := h.mst hi hcf0 e1
      refine k_isT cJ hn (by omega) (fun q => absurd ⟨by omega, by omega⟩ q) (fun _ => br_n (by decide) ?_)
      refine k_layM (Q := fun r2 I2 L2 => iI (-10 - (w : Int)) = r2 ∧ Rel (K + 1) G x m o Sh F I2 L2) hJ2 (by omega) oP (fun q => absurd hl q) (fun _ w2 J3 V hw2 r mf vf v2 => ?_) (fun _ J3 V hw2 => by rw [hw] at hw2; cases hw2)
      rw [hw] at hw2
      have hw2 : w = w2 := Option.some.inj hw2
      subst hw2
      refine ⟨rfl, h.step hi V hcf0 ?_ (mJ.tr mf) r ?_⟩
      · have v3 := vf 3 (by decide) (by decide) (by decide)
        have v4 := vf 4 (by decide) (by decide) (by decide)
        have v5 := vf 5 (by decide) (by decide) (by decide)
        refine ⟨⟨?_, ?_, ?_, ?_, fun k hk => absurd hk (by omega), fun k hk => absurd hk (by rw [v4]; omega), fun k hk => absurd hk (by rw [v4]; omega)⟩, cg.cong (fun f _ _ => vf f (by omega) (by omega) (by omega)) (fun a _ _ => off a (by omega)), cr.cong (fun f _ _ _ => vf f (by omega) (by omega) (by omega)) (by rw [off _ (by omega)]) (by rw [off _ (by omega)]) (fun a _ _ => off a (by omega)), ci.cong (fun f _ _ => vf f (by omega) (by omega) (by omega)) (by rw [off _ (by omega)]) (by rw [off _ (by omega)]) (off _ (by omega)), cn.cong (fun f _ _ => vf f (by omega) (by omega) (by omega)) (fun a _ _ => off a (by omega)) (fun _ _ _ => rfl)⟩
        · rw [v2]; exact hJ.1
        · rw [v3, hl]; exact hJ.2.1
        · rw [v4, hJ.2.2.1]; congr 1; omega
        · rw [v5, hJ.2.2.2]; congr 1; omega
      · refine ⟨?_, oG.cong (fun f _ _ => vf f (by omega) (by omega) (by omega)), oR.cong (fun f _ _ _ => vf f (by omega) (by omega) (by omega)), oI.cong (by rw [vf 13 (by decide) (by decide) (by decide)]) (fun f _ _ => vf f (by omega) (by omega) (by omega)), oN.cong (fun f _ _ => vf f (by omega) (by omega) (by omega))⟩
        unfold OkP
        rw [v2, vf 3 (by decide) (by decide) (by decide), vf 4 (by decide) (by decide) (by decide), vf 5 (by decide) (by decide) (by decide)]
        exact ⟨by omega, by omega, fun k hk => absurd hk (by omega), fun k hk => absurd hk (by omega)⟩
    · unfold wp_X7_lay
      intro J e1
      obtain ⟨hJ2, mJ, cJ⟩ := h.mst hi hcf0 e1
      refine k_isT cJ hn (by omega) (fun q => absurd ⟨by omega, by omega⟩ q) (fun _ => br_n (by decide) ?_)
      refine k_layM (Q := fun r2 I2 L2 => iI (scanR (T i)).2.1 = r2 ∧ Rel (K + 1) G x m o Sh F I2 L2) hJ2 (by omega) oP (fun q => absurd hl q) (fun _ w2 J3 V hw2 => by rw [hw] at hw2; cases hw2) (fun _ J3 V _ r mf vf v3 v4 v5 v67 => ?_)
      obtain ⟨j3, j4, j5, j6, j2, jf, jh⟩ := hJ
      have V2 := vf 2 (by decide) (by decide) (by decide) (by decide) (by decide)
      have V1 := vf 1 (by decide) (by decide) (by decide) (by decide) (by decide)
      have ok := scan_ok (tp := T i 1) (len := (T i 2 0).toNat) (fun k hk => oP.2.2.1 k (by omega)) (T i 2 0).toNat 0 false 1 (-1) (fun _ => 0) (fun _ => 0) (by omega) (by omega) (by omega) (fun _ => by omega) (fun k => by simp) hw
      change 1 ≤ (scanR (T i)).2.1 ∧ (scanR (T i)).2.1 ≤ 12 ∧ -1 ≤ (scanR (T i)).2.2.1 ∧ (scanR (T i)).2.2.1 < (scanR (T i)).2.1 ∧ ∀ k, 0 ≤ (scanR (T i)).2.2.2.1 k ∧ (scanR (T i)).2.2.2.1 k ≤ 26 * ((T i 2 0).toNat : Int) ∧ 0 ≤ (scanR (T i)).2.2.2.2 k ∧ (scanR (T i)).2.2.2.2 k ≤ 26 * ((T i 2 0).toNat : Int) at ok
      obtain ⟨ok1, ok2, ok3, ok4, ok5⟩ := ok
      refine ⟨rfl, h.step hi V hcf0 ?_ (mJ.tr mf) r ?_⟩
      · refine ⟨⟨?_, ?_, ?_, ?_, fun k hk => ?_, fun k hk => ?_, fun k hk => ?_⟩, cg.cong (fun f _ _ => vf f (by omega) (by omega) (by omega) (by omega) (by omega)) (fun a _ _ => off a (by omega)), cr.cong (fun f _ _ _ => vf f (by omega) (by omega) (by omega) (by omega) (by omega)) (by rw [off _ (by omega)]) (by rw [off _ (by omega)]) (fun a _ _ => off a (by omega)), ci.cong (fun f _ _ => vf f (by omega) (by omega) (by omega) (by omega) (by omega)) (by rw [off _ (by omega)]) (by rw [off _ (by omega)]) (off _ (by omega)), cn.cong (fun f _ _ => vf f (by omega) (by omega) (by omega) (by omega) (by omega)) (fun a _ _ => off a (by omega)) (fun _ _ _ => rfl)⟩
        · rw [V2]; exact j3
        · rw [v3]; exact j4
        · rw [v4]; exact j5
        · rw [v5]; exact j6
        · rw [V2] at hk
          rw [V1, j2]
          exact cp.2.2.2.2.1 k hk
        · rw [v4] at hk
          rw [(v67 k (by omega)).1]
          exact jf k (by omega)
        · rw [v4] at hk
          rw [(v67 k (by omega)).2]
          exact jh k (by omega)
      · have w3 := oR.2.2.1 hl
        refine ⟨?_, oG.cong (fun f _ _ => vf f (by omega) (by omega) (by omega) (by omega) (by omega)), ?_, oI.cong (by rw [vf 13 (by decide) (by decide) (by decide) (by decide) (by decide)]) (fun f _ _ => vf f (by omega) (by omega) (by omega) (by omega) (by omega)), oN.cong (fun f _ _ => vf f (by omega) (by omega) (by omega) (by omega) (by omega))⟩
        · unfold OkP
          rw [V2, V1, v3, v4, v5]
          refine ⟨p1, by omega, oP.2.2.1, fun k hk => ?_⟩
          have := ok5 k
          rw [(v67 k (by omega)).1, (v67 k (by omega)).2]
          omega
        · obtain ⟨w1, w2, -, w4, -, -⟩ := oR
          unfold OkR
          rw [vf 13 (by decide) (by decide) (by decide) (by decide) (by decide), vf 14 (by decide) (by decide) (by decide) (by decide) (by decide), vf 17 (by decide) (by decide) (by decide) (by decide) (by decide)]
          exact ⟨w1, w2, fun _ => w3, w4, fun q => absurd q (by omega), fun r hr => absurd hr (by omega)⟩
end LY3
