section MT2
variable {K : Nat} {G : GX} {x m o n : Nat} {Sh S1 S2 : SH} {F : Nat → Option Nat} {I I0 I1 I2 J : MI} {L L0 L1 L2 : ML} {tb : Nat → Nat} {T : Nat → TS} {U V : TS} {b t N cols i r a z w : Nat}
theorem isModel.of (h : isModel G S1 a) (e : ∀ b, a ≤ b → b < a + 35 → S2 b = S1 b) : isModel G S2 a := by
  unfold isModel at *
  simp (disch := omega) only [e]
  exact h
def T0 : TS := fun _ _ => 0
def Tn : TS := upT (upT T0 5 0 (-1)) 31 0 (-1)
theorem RC_new (h : StT G Sh I L t 13 20 S1 J L1) : RC Tn t J L1 := by
  obtain ⟨h0, h1, h2, h3, h4, h5, h6, h7, h8, ⟨a1, a2, a3, a4⟩, ⟨b1, b2, b3, b4⟩, c1, c2, c3, c4, c5, c6⟩ := h
  refine ⟨⟨b1, b2, b3, by rw [b4]; decide, fun k hk => absurd hk (by show ¬ (k : Int) < 0; omega), fun k hk => absurd hk (by show ¬ (k : Int) < 0; omega), fun k hk => absurd hk (by show ¬ (k : Int) < 0; omega)⟩, fun k hk => (h7 k hk).2, ⟨a1, a4, fun r hr => absurd hr (by show ¬ (r : Int) < 0; omega), fun r _ hr => (h8 r hr).2⟩, ⟨a3, a2, fun k hk => absurd hk (by show ¬ (k : Int) < 0; omega)⟩, c1, c2, fun c hc => absurd hc (by show ¬ (c : Int) < 0; omega), c4, c5, by rw [c3]; decide, c6⟩
theorem Ok_new : Ok K Tn := by
  refine ⟨⟨⟨by decide, by decide⟩, Or.inl ⟨rfl, rfl, rfl⟩, fun k hk => absurd hk (by show ¬ (k : Int) < 0; omega), fun k hk => absurd hk (by show ¬ (k : Int) < 0; omega)⟩, fun k hk => ?_, ⟨⟨by decide, by decide⟩, Or.inl rfl, fun _ => rfl, fun _ => rfl, fun _ => rfl, fun r hr => absurd hr (by show ¬ (r : Int) < 0; omega)⟩, ⟨by decide, by decide, rfl⟩, ⟨⟨by decide, by show (0 : Int) ≤ K; omega⟩, fun _ => rfl, ⟨by decide, by decide⟩, fun c hc => absurd hc (by show ¬ (c : Int) < 0; omega), ⟨by decide, by decide⟩, by decide, by decide⟩⟩
  show (-10000 : Int) ≤ 0 ∧ (0 : Int) ≤ 10000 ∧ (0 : Int) ≤ 0 ∧ (0 : Int) ≤ 10000 ∧ (0 : Int) ≤ 0 ∧ (0 : Int) ≤ 3 ∧ (0 : Int) ≤ 0 ∧ (0 : Int) ≤ 10000 ∧ (0 : Int) ≤ 0 ∧ (0 : Int) ≤ 3
  decide
theorem s_table (h : Inv K G x m o Sh F I L n tb T) : lawS_table G x m o (Rel (K + 1) G x m o) Sh F I L := by
  have hn := h.1.2.2.1; have hxm := h.1.1; have hmo := h.1.2.1
  obtain ⟨g, ⟨hX, hMo, hO⟩, hT, ⟨cx, cm⟩, hR, h0⟩ := id h
  obtain ⟨g1, g2, g3, g4, g5⟩ := id g
  unfold lawS_table
  intro z hz hG
  have zx := hz _ _ hX.1
  have zx1 := hz _ _ hX.2
  have zo := hz _ _ hO
  have zt : ∀ i, i < n → tb i + 134 ≤ z := fun i hi => by
    have := hz _ _ ((hT i hi).2.2.2.2.2.2.2.2 19 (by omega)).2.2.2
    omega
  unfold wp_X6_table
  refine lt_br cx iI_6 (by omega) (by omega) (fun q => ⟨F, hX.2, by omega, fun S4 s4 A5 a5 B6 b6 => ⟨by omega, ?_⟩⟩) (fun q => ⟨by omega, F, hX, hMo, hO, ?_⟩)
  · subst s4 a5 b6
    refine k_X5i (sh_hit rfl) (fun S1 J L1 st => ?_)
    have kp : ∀ b, b < z → S1 b = Sh b ∧ J b = I b ∧ L1 b = L b := fun b hb => by
      obtain ⟨p1, p2, p3⟩ := st.1 b (Or.inl hb)
      refine ⟨by rw [p1, sh_miss (by omega)], funext fun k => by rw [p2, mz_miss (by omega)], funext fun k => by rw [p3, mzl_miss (by omega)]⟩
    refine ⟨by rw [(kp x zx).1, sXK_1]; exact hX.1, st.2.1, by rw [(kp _ zx1).1]; exact hX.2, by rw [cx]; exact in_ok rfl (by omega) (by omega), fun S2 s2 I2 i2 => ⟨by omega, ?_⟩⟩
    rw [cx, nat_ok rfl (by omega)] at s2
    rw [(kp x zx).2.1, cx, iI_1, iI_add] at i2
    have r1 : I2 x 1 - (1 : Int32) = iI n := by rw [i2, mu_hit ⟨rfl, rfl⟩, iI_1, iI_sub]; congr 1; omega
    rw [r1]
    have kp2 : ∀ b, b < z → b ≠ x → b ≠ x + 1 → S2 b = Sh b ∧ I2 b = I b ∧ L1 b = L b := fun b hb h1 h2 => by
      obtain ⟨p1, p2, p3⟩ := kp b hb
      exact ⟨by rw [s2, sh_miss h2, p1], by rw [i2, mu_off h1, p2], p3⟩
    have hX2 : isX G S2 x (va_up F n (some z)) := ⟨by rw [s2, sh_miss (by omega), (kp x zx).1]; exact hX.1, by rw [s2, sh_hit rfl]⟩
    have hM2 : isModel G S2 m := hMo.of (fun b q1 q2 => (kp2 b (by omega) (by omega) (by omega)).1)
    have hO2 : S2 o = some (sJ G 1) := by rw [(kp2 o zo (by omega) (by omega)).1]; exact hO
    have st2 : ∀ b, z ≤ b → S2 b = S1 b ∧ I2 b = J b := fun b hb => ⟨by rw [s2, sh_miss (by omega)], by rw [i2, mu_off (by omega)]⟩
    refine ⟨_, hX2, hM2, hO2, ?_⟩
    unfold wp_X7_table
    intro J1 e1
    have c1 : J1 m 1 = iI n := by rw [e1, mu_miss (Or.inr (by decide)), (kp2 m (by omega) (by omega) (by omega)).2.1]; exact cm
    have vn : vp_in (iI (n : Int)) 6 := in_ok rfl (by omega) (by omega)
    have nn : (iI (n : Int)).toNatClampNeg = n := nat_ok rfl (by omega)
    rw [c1]
    refine eq_br rfl iI_6 (by omega) (by omega) (fun q => absurd q (by omega)) (fun _ => ⟨vn, fun J4 e4 => ?_⟩)
    rw [nn, iI_m1] at e4
    have c4 : J4 m 1 = iI n := by rw [e4, mu_miss (Or.inl (by omega)), c1]
    rw [c4, nn]
    refine ⟨vn, fun J6 e6 J7 e7 => ?_⟩
    rw [iI_m1] at e6
    have c6 : J6 m 1 = iI n := by rw [e6, mu_miss (Or.inl (by omega)), c4]
    rw [c6, iI_1, iI_add] at e7
    have c7 : J7 m 1 = iI ((n : Int) + 1) := by rw [e7, mu_hit ⟨rfl, rfl⟩]
    rw [c7, iI_1, iI_sub]
    refine ⟨by congr 1; omega, n + 1, fun j => if j = n then z else tb j, fun j => if j = n then Tn else T j, ?_, ⟨hX2, hM2, hO2⟩, fun j hj => ?_, ⟨?_, by rw [c7]; rfl⟩, fun j hj => ?_, fun j hj hj6 => ?_⟩
    · refine ⟨g1, g2, by omega, fun j hj => ?_, fun i j hij hj => ?_⟩
      · by_cases e : j = n
        · simp only [e, if_true]; exact zo
        · simp only [e, if_false]; exact g4 j (by omega)
      · have ei : i ≠ n := by omega
        simp only [ei, if_false]
        by_cases e : j = n
        · simp only [e, if_true]; exact zt i (by omega)
        · simp only [e, if_false]; exact g5 i j hij (by omega)
    · by_cases e : j = n
      · subst e
        simp only [if_true]
        refine ⟨by unfold va_up; rw [if_pos rfl], ?_⟩
        obtain ⟨-, h1, h2, h3, h4, h5, h6, h7, h8, -⟩ := st
        have S1t : isTable G S1 z := ⟨h1, h2, by rw [h3], by rw [h4], h5, h6, fun i hi => (h7 i hi).1, fun i hi => (h8 i hi).1⟩
        exact S1t.of (fun b q1 q2 => (st2 b q1).1)
      · simp only [e, if_false]
        have zj := zt j (by omega)
        have := g4 j (by omega)
        refine ⟨by unfold va_up; rw [if_neg e]; exact (hT j (by omega)).1, (hT j (by omega)).2.of (fun b q1 q2 => (kp2 b (by omega) (by omega) (by omega)).1)⟩
    · rw [e7, mu_miss (Or.inl (by omega)), e6, mu_miss (Or.inl (by omega)), e4, mu_miss (Or.inl (by omega)), e1, mu_miss (Or.inl (by omega)), i2, mu_hit ⟨rfl, rfl⟩]
      rfl
    · have off : ∀ b, b < m ∨ m + 35 ≤ b → J7 b = I2 b := fun b hb => by rw [e7, mu_off (by omega), e6, mu_off (by omega), e4, mu_off (by omega), e1, mu_off (by omega)]
      have base : ∀ (V : TS) (q : Nat), RM V m q I L → RM V m q J1 L1 := fun V q w => by
        rw [e1]
        exact (w.keep (I1 := I2) (L1 := L1) (fun f f1 f2 => (kp2 _ (by omega) (by omega) (by omega)).2.1) (fun f f1 f2 => (kp2 _ (by omega) (by omega) (by omega)).2.2)).out (by omega)
      by_cases e : j = n
      · subst e
        simp only [if_true]
        refine ⟨(RC_new st).keep (fun b q1 q2 => by rw [off b (by omega), (st2 b q1).2]) (fun _ _ _ => rfl), ?_, Ok_new⟩
        rw [e7, e6, e4]
        exact (((base T0 j (h0 j (by omega) (by omega))).set 5 0 j _ rfl (by decide) (by simp [wid]) rfl).set 31 0 j _ rfl (by decide) (by simp [wid]) rfl).out (by omega)
      · simp only [e, if_false]
        have zj := zt j (by omega)
        have := g4 j (by omega)
        obtain ⟨p1, p2, p3⟩ := hR j (by omega)
        refine ⟨p1.keep (fun b q1 q2 => by rw [off b (by omega), (kp2 b (by omega) (by omega) (by omega)).2.1]) (fun b q1 q2 => (kp2 b (by omega) (by omega) (by omega)).2.2), ?_, p3.next⟩
        rw [e7, e6, e4]
        exact (((base _ j p2).else e 5 0 n (by decide) (by simp [wid])).else e 31 0 n (by decide) (by simp [wid])).out (by omega)
    · have base : ∀ (V : TS) (q : Nat), RM V m q I L → RM V m q J1 L1 := fun V q w => by
        rw [e1]
        exact (w.keep (I1 := I2) (L1 := L1) (fun f f1 f2 => (kp2 _ (by omega) (by omega) (by omega)).2.1) (fun f f1 f2 => (kp2 _ (by omega) (by omega) (by omega)).2.2)).out (by omega)
      have e : j ≠ n := by omega
      rw [e7, e6, e4]
      exact (((base _ j (h0 j (by omega) hj6)).else e 5 0 n (by decide) (by simp [wid])).else e 31 0 n (by decide) (by simp [wid])).out (by omega)
  · unfold wp_X7_table
    intro J e1
    refine eq_br (by rw [e1, mu_miss (Or.inr (by decide))]; exact cm) iI_6 (by omega) (by omega) (fun _ => ⟨rfl, by rw [e1]; exact h.fault _⟩) (fun z => absurd (by omega) z)
end MT2
