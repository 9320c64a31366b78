section ST
variable {K : Nat} {G : GX} {x m o n : Nat} {Sh S1 S2 : SH} {F : Nat → Option Nat} {I I0 I1 I2 J : MI} {L L0 L1 L2 : ML} {tb : Nat → Nat} {T : Nat → TS} {U V : TS} {b t N cols i r a z w lo : Nat}
theorem mzs (h : ∀ b, lo ≤ b → b < z → ∀ k, I b k = 0) : ∀ b, lo ≤ b → b < z + 1 → ∀ k, mz I z b k = 0 := by
  intro b h1 h2 k
  by_cases e : b = z
  · exact mz_hit e
  · rw [mz_miss e]
    exact h b h1 (by omega) k
theorem mzsl (h : ∀ b, lo ≤ b → b < z → ∀ k, L b k = 0) : ∀ b, lo ≤ b → b < z + 1 → ∀ k, mzl L z b k = 0 := by
  intro b h1 h2 k
  by_cases e : b = z
  · exact mzl_hit e
  · rw [mzl_miss e]
    exact h b h1 (by omega) k
theorem mzo {c : Nat} (h : ∀ b, b < lo ∨ c ≤ b → I1 b = I b) (hz : lo ≤ z ∧ z < c) : ∀ b, b < lo ∨ c ≤ b → mz I1 z b = I b := fun b hb => by rw [mz_miss (by omega)]; exact h b hb
theorem mzol {c : Nat} (h : ∀ b, b < lo ∨ c ≤ b → L1 b = L b) (hz : lo ≤ z ∧ z < c) : ∀ b, b < lo ∨ c ≤ b → mzl L1 z b = L b := fun b hb => by rw [mzl_miss (by omega)]; exact h b hb
theorem k_X6i {Q : Nat → SH → MI → ML → Prop} (hQ : ∀ (S1 : SH) (J : MI) (L1 : ML), KP x 2 Sh I L S1 J L1 → S1 x = some (sXK 1 x) → S1 (x + 1) = some (sQ G 6 6 (fun _ => none)) → J x 1 = 0 → Q (x + 2) S1 J L1) : wp_X6_init G (x + 1) Sh x I L Q := by
  unfold wp_X6_init
  refine ⟨by omega, fun S1 s1 A1 a1 B1 b1 => ⟨by omega, fun S2 s2 A2 a2 => ⟨by omega, ?_⟩⟩⟩
  subst s1 a1 b1 s2 a2
  refine hQ _ _ _ (fun b hb => ⟨?_, fun k => ?_, fun k => ?_⟩) ?_ ?_ ?_
  · simp (disch := omega) only [sh_hit, sh_miss, mz_hit, mz_miss, mzl_hit, mzl_miss, mu_hit, mu_miss, mul_hit, mul_miss]
  · simp (disch := omega) only [sh_hit, sh_miss, mz_hit, mz_miss, mzl_hit, mzl_miss, mu_hit, mu_miss, mul_hit, mul_miss]
  · simp (disch := omega) only [sh_hit, sh_miss, mz_hit, mz_miss, mzl_hit, mzl_miss, mu_hit, mu_miss, mul_hit, mul_miss]
  · simp (disch := omega) only [sh_hit, sh_miss, mz_hit, mz_miss, mzl_hit, mzl_miss, mu_hit, mu_miss, mul_hit, mul_miss]
  · simp (disch := omega) only [sh_hit, sh_miss, mz_hit, mz_miss, mzl_hit, mzl_miss, mu_hit, mu_miss, mul_hit, mul_miss]
  · simp (disch := omega) only [sh_hit, sh_miss, mz_hit, mz_miss, mzl_hit, mzl_miss, mu_hit, mu_miss, mul_hit, mul_miss]
set_option maxRecDepth 100000 in
set_option maxHeartbeats 4000000 in
theorem k_X7i {Q : Nat → SH → MI → ML → Prop} (hQ : ∀ (S1 : SH) (J : MI) (L1 : ML), (∀ b, b < m ∨ m + 35 ≤ b → S1 b = Sh b) → (∀ b, b < m + 1 ∨ m + 35 ≤ b → J b = I b) → (∀ b, b < m + 1 ∨ m + 35 ≤ b → L1 b = L b) → isModel G S1 m → (∀ b, m + 1 ≤ b → b < m + 35 → ∀ k, J b k = 0) → (∀ b, m + 1 ≤ b → b < m + 35 → ∀ k, L1 b k = 0) → Q (m + 35) S1 J L1) : wp_X7_init G (m + 1) Sh m I L Q := by
  unfold wp_X7_init
  refine ⟨by omega, fun S1 s1 A1 a1 B1 b1 => ⟨by omega, fun R1 r1 => ⟨by omega, fun S2 s2 A2 a2 B2 b2 => ⟨by omega, fun R2 r2 => ⟨by omega, fun S3 s3 A3 a3 B3 b3 => ⟨by omega, fun R3 r3 => ⟨by omega, fun S4 s4 A4 a4 B4 b4 => ⟨by omega, fun R4 r4 => ⟨by omega, fun S5 s5 A5 a5 B5 b5 => ⟨by omega, fun R5 r5 => ⟨by omega, fun S6 s6 A6 a6 B6 b6 => ⟨by omega, fun R6 r6 => ⟨by omega, fun S7 s7 A7 a7 B7 b7 => ⟨by omega, fun R7 r7 => ⟨by omega, fun S8 s8 A8 a8 B8 b8 => ⟨by omega, fun R8 r8 => ⟨by omega, fun S9 s9 A9 a9 B9 b9 => ⟨by omega, fun R9 r9 => ⟨by omega, fun S10 s10 A10 a10 B10 b10 => ⟨by omega, fun R10 r10 => ⟨by omega, fun S11 s11 A11 a11 B11 b11 => ⟨by omega, fun R11 r11 => ⟨by omega, fun S12 s12 A12 a12 B12 b12 => ⟨by omega, fun R12 r12 => ⟨by omega, fun S13 s13 A13 a13 B13 b13 => ⟨by omega, fun R13 r13 => ⟨by omega, fun S14 s14 A14 a14 B14 b14 => ⟨by omega, fun R14 r14 => ⟨by omega, fun S15 s15 A15 a15 B15 b15 => ⟨by omega, fun R15 r15 => ⟨by omega, fun S16 s16 A16 a16 B16 b16 => ⟨by omega, fun R16 r16 => ⟨by omega, fun S17 s17 A17 a17 B17 b17 => ⟨by omega, fun R17 r17 => ⟨by omega, fun S18 s18 A18 a18 B18 b18 => ⟨by omega, fun R18 r18 => ⟨by omega, fun S19 s19 A19 a19 B19 b19 => ⟨by omega, fun R19 r19 => ⟨by omega, fun S20 s20 A20 a20 B20 b20 => ⟨by omega, fun R20 r20 => ⟨by omega, fun S21 s21 A21 a21 B21 b21 => ⟨by omega, fun R21 r21 => ⟨by omega, fun S22 s22 A22 a22 B22 b22 => ⟨by omega, fun R22 r22 => ⟨by omega, fun S23 s23 A23 a23 B23 b23 => ⟨by omega, fun R23 r23 => ⟨by omega, fun S24 s24 A24 a24 B24 b24 => ⟨by omega, fun R24 r24 => ⟨by omega, fun S25 s25 A25 a25 B25 b25 => ⟨by omega, fun R25 r25 => ⟨by omega, fun S26 s26 A26 a26 B26 b26 => ⟨by omega, fun R26 r26 => ⟨by omega, fun S27 s27 A27 a27 B27 b27 => ⟨by omega, fun R27 r27 => ⟨by omega, fun S28 s28 A28 a28 B28 b28 => ⟨by omega, fun R28 r28 => ⟨by omega, fun S29 s29 A29 a29 B29 b29 => ⟨by omega, fun R29 r29 => ⟨by omega, fun S30 s30 A30 a30 B30 b30 => ⟨by omega, fun R30 r30 => ⟨by omega, fun S31 s31 A31 a31 B31 b31 => ⟨by omega, fun R31 r31 => ⟨by omega, fun S32 s32 A32 a32 B32 b32 => ⟨by omega, fun R32 r32 => ⟨by omega, fun S33 s33 A33 a33 B33 b33 => ⟨by omega, fun R33 r33 => ⟨by omega, fun S34 s34 A34 a34 B34 b34 => ⟨by omega, fun R34 r34 => ⟨by omega, ?_⟩⟩⟩⟩⟩⟩⟩⟩⟩⟩⟩⟩⟩⟩⟩⟩⟩⟩⟩⟩⟩⟩⟩⟩⟩⟩⟩⟩⟩⟩⟩⟩⟩⟩⟩⟩⟩⟩⟩⟩⟩⟩⟩⟩⟩⟩⟩⟩⟩⟩⟩⟩⟩⟩⟩⟩⟩⟩⟩⟩⟩⟩⟩⟩⟩⟩⟩⟩⟩
  subst s1 a1 b1 r1 s2 a2 b2 r2 s3 a3 b3 r3 s4 a4 b4 r4 s5 a5 b5 r5 s6 a6 b6 r6 s7 a7 b7 r7 s8 a8 b8 r8 s9 a9 b9 r9 s10 a10 b10 r10 s11 a11 b11 r11 s12 a12 b12 r12 s13 a13 b13 r13 s14 a14 b14 r14 s15 a15 b15 r15 s16 a16 b16 r16 s17 a17 b17 r17 s18 a18 b18 r18 s19 a19 b19 r19 s20 a20 b20 r20 s21 a21 b21 r21 s22 a22 b22 r22 s23 a23 b23 r23 s24 a24 b24 r24 s25 a25 b25 r25 s26 a26 b26 r26 s27 a27 b27 r27 s28 a28 b28 r28 s29 a29 b29 r29 s30 a30 b30 r30 s31 a31 b31 r31 s32 a32 b32 r32 s33 a33 b33 r33 s34 a34 b34 r34
  refine hQ _ _ _ (fun b hb => ?_) (mzo (mzo (mzo (mzo (mzo (mzo (mzo (mzo (mzo (mzo (mzo (mzo (mzo (mzo (mzo (mzo (mzo (mzo (mzo (mzo (mzo (mzo (mzo (mzo (mzo (mzo (mzo (mzo (mzo (mzo (mzo (mzo (mzo (mzo (fun _ _ => rfl) (by omega)) (by omega)) (by omega)) (by omega)) (by omega)) (by omega)) (by omega)) (by omega)) (by omega)) (by omega)) (by omega)) (by omega)) (by omega)) (by omega)) (by omega)) (by omega)) (by omega)) (by omega)) (by omega)) (by omega)) (by omega)) (by omega)) (by omega)) (by omega)) (by omega)) (by omega)) (by omega)) (by omega)) (by omega)) (by omega)) (by omega)) (by omega)) (by omega)) (by omega)) (mzol (mzol (mzol (mzol (mzol (mzol (mzol (mzol (mzol (mzol (mzol (mzol (mzol (mzol (mzol (mzol (mzol (mzol (mzol (mzol (mzol (mzol (mzol (mzol (mzol (mzol (mzol (mzol (mzol (mzol (mzol (mzol (mzol (mzol (fun _ _ => rfl) (by omega)) (by omega)) (by omega)) (by omega)) (by omega)) (by omega)) (by omega)) (by omega)) (by omega)) (by omega)) (by omega)) (by omega)) (by omega)) (by omega)) (by omega)) (by omega)) (by omega)) (by omega)) (by omega)) (by omega)) (by omega)) (by omega)) (by omega)) (by omega)) (by omega)) (by omega)) (by omega)) (by omega)) (by omega)) (by omega)) (by omega)) (by omega)) (by omega)) (by omega)) ?_ (mzs (mzs (mzs (mzs (mzs (mzs (mzs (mzs (mzs (mzs (mzs (mzs (mzs (mzs (mzs (mzs (mzs (mzs (mzs (mzs (mzs (mzs (mzs (mzs (mzs (mzs (mzs (mzs (mzs (mzs (mzs (mzs (mzs (mzs (fun b h1 h2 => absurd h2 (by omega)))))))))))))))))))))))))))))))))))) (mzsl (mzsl (mzsl (mzsl (mzsl (mzsl (mzsl (mzsl (mzsl (mzsl (mzsl (mzsl (mzsl (mzsl (mzsl (mzsl (mzsl (mzsl (mzsl (mzsl (mzsl (mzsl (mzsl (mzsl (mzsl (mzsl (mzsl (mzsl (mzsl (mzsl (mzsl (mzsl (mzsl (mzsl (fun b h1 h2 => absurd h2 (by omega))))))))))))))))))))))))))))))))))))
  · simp (disch := omega) only [sh_miss]
  · unfold isModel
    simp (disch := omega) only [sh_hit, sh_miss, sModelK_34, true_and, and_true]
theorem s_start (G : GX) (z : Nat) : wp_start G z (fun x mm o Sh I L => ∃ F, Rel 0 G x mm o Sh F I L) := by
  unfold wp_start
  intro S1 s1 I1 i1 L1 l1
  subst s1 i1 l1
  refine k_X6i (fun S2 I2 L2 kp x1 x2 x3 => ⟨x1, fun S3 s3 I3 i3 L3 l3 => ?_⟩)
  subst s3 i3 l3
  refine k_X7i (fun S4 I4 L4 o1 o2 o3 hM z1 z2 S5 s5 I5 i5 L5 l5 => ?_)
  subst s5 i5 l5
  have hX : isX G (shu S4 (z + 2 + 35) (sJ G 1)) z (fun _ => none) := by
    refine ⟨?_, ?_⟩
    · rw [sh_miss (by omega), o1 z (by omega), sh_miss (by omega), x1, sXK_1]
    · rw [sh_miss (by omega), o1 (z + 1) (by omega), sh_miss (by omega), x2]
  have hRM : ∀ i, RM T0 (z + 2) i (mz I4 (z + 2 + 35)) (mzl L4 (z + 2 + 35)) := by
    intro i f k f1 f2 hk
    rw [mz_miss (by omega), mzl_miss (by omega), z1 (z + 2 + f) (by omega) (by omega), z2 (z + 2 + f) (by omega) (by omega)]
    exact ⟨fun _ => rfl, fun _ => rfl⟩
  refine ⟨fun _ => none, 0, fun _ => 0, fun _ => T0, ⟨by omega, by omega, by omega, fun i hi => absurd hi (by omega), fun i j _ hj => absurd hj (by omega)⟩, ⟨hX, hM.of (fun b q1 q2 => sh_miss (by omega)), sh_hit rfl⟩, fun i hi => absurd hi (by omega), ⟨?_, ?_⟩, fun i hi => absurd hi (by omega), fun i _ _ => hRM i⟩
  · rw [mz_miss (by omega), o2 z (by omega), mz_miss (by omega), x3]
    rfl
  · rw [mz_miss (by omega), o2 (z + 2) (by omega), mz_hit rfl]
    rfl
theorem s_all (i : Nat) (hi : i ≤ 64) (G : GX) (x m o : Nat) : LSt G x m o (Rel i G x m o) (Rel (i + 1) G x m o) := by
  intro Sh F I L hR
  obtain ⟨n, tb, T, h⟩ := hR
  exact ⟨h.same 0 h.1.2.2.1 (fun _ _ => rfl) rfl (fun _ _ _ => rfl), h.2.1, s_table h, s_type h, s_lay h, s_glue h, s_shrink h, s_row h, s_entry h, s_nest h (by omega), s_end h, s_between h, s_run h (by omega), s_width h (by omega), s_isVoid h (by omega), s_place h (by omega), s_at h (by omega), s_item h, s_count h (by omega)⟩
end ST
