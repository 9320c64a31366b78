section MK
variable {K : Nat} {G : GX} {x m o n : Nat} {Sh : SH} {F : Nat → Option Nat} {I I0 I1 I2 : MI} {L L0 L1 L2 : ML} {tb : Nat → Nat} {T : Nat → TS} {U V : TS} {b t N cols i a z : Nat}
theorem sh_hit {Sh : SH} {a b : Nat} {f : Shp} (h : b = a) : shu Sh a f b = some f := by rw [h, shu_at]
theorem sh_miss {Sh : SH} {a b : Nat} {f : Shp} (h : b ≠ a) : shu Sh a f b = Sh b := shu_off h
theorem mz_hit {I : MI} {a b k : Nat} (h : b = a) : mz I a b k = 0 := by
  unfold mz
  rw [if_pos h]
theorem mz_miss {I : MI} {a b : Nat} (h : b ≠ a) : mz I a b = I b := if_neg h
theorem mzl_hit {L : ML} {a b k : Nat} (h : b = a) : mzl L a b k = 0 := by
  unfold mzl
  rw [if_pos h]
theorem mzl_miss {L : ML} {a b : Nat} (h : b ≠ a) : mzl L a b = L b := if_neg h
/-- all that lies outside a block is as it was -/
def KP (a w : Nat) (Sh : SH) (I : MI) (L : ML) (Sh1 : SH) (I1 : MI) (L1 : ML) : Prop := ∀ b : Nat, b < a ∨ a + w ≤ b → Sh1 b = Sh b ∧ (∀ k, I1 b k = I b k) ∧ ∀ k, L1 b k = L b k
theorem k_X0i {Q : Nat → SH → MI → ML → Prop} (hQ : ∀ J : MI, (∀ b, b ≠ a → ∀ k, J b k = I b k) → J a 0 = 0 ∧ J a 1 = 0 ∧ J a 2 = 0 ∧ J a 3 = 0 ∧ J a 4 = 0 → Q z Sh J L) : wp_X0_init G z Sh a I L Q := by
  unfold wp_X0_init
  intro A1 e1 A2 e2 A3 e3 A4 e4 A5 e5
  subst e1 e2 e3 e4 e5
  refine ⟨by omega, hQ _ (fun b hb k => ?_) ?_⟩
  · simp (disch := omega) only [sh_hit, sh_miss, mz_hit, mz_miss, mzl_hit, mzl_miss, mu_hit, mu_miss, mul_hit, mul_miss]
  · simp (disch := omega) only [sh_hit, sh_miss, mz_hit, mz_miss, mzl_hit, mzl_miss, mu_hit, mu_miss, mul_hit, mul_miss]
    exact ⟨trivial, trivial, trivial, trivial, trivial⟩
theorem k_X4i {Q : Nat → SH → MI → ML → Prop} (hQ : ∀ (S1 : SH) (J : MI) (L1 : ML), KP a 4 Sh I L S1 J L1 → isRow G S1 a → J a 3 = 0 ∧ J a 4 = 0 → Q (a + 4) S1 J L1) : wp_X4_init G (a + 1) Sh a I L Q := by
  unfold wp_X4_init
  refine ⟨by omega, fun S1 s1 A1 a1 B1 b1 => ⟨by omega, fun S2 s2 => ⟨by omega, fun S3 s3 A2 a2 B2 b2 => ⟨by omega, fun S4 s4 => ⟨by omega, fun S5 s5 A3 a3 B3 b3 => ⟨by omega, fun S6 s6 A4 a4 A5 a5 => ⟨by omega, ?_⟩⟩⟩⟩⟩⟩⟩
  subst s1 a1 b1 s2 s3 a2 b2 s4 s5 a3 b3 s6 a4 a5
  refine hQ _ _ _ (fun b hb => ⟨?_, fun k => ?_, fun k => ?_⟩) ⟨?_, ?_, ?_, ?_⟩ ?_
  · simp (disch := omega) only [sh_hit, sh_miss, mz_hit, mz_miss, mzl_hit, mzl_miss, mu_hit, mu_miss, mul_hit, mul_miss]
  · simp (disch := omega) only [sh_hit, sh_miss, mz_hit, mz_miss, mzl_hit, mzl_miss, mu_hit, mu_miss, mul_hit, mul_miss]
  · simp (disch := omega) only [sh_hit, sh_miss, mz_hit, mz_miss, mzl_hit, mzl_miss, mu_hit, mu_miss, mul_hit, mul_miss]
  · simp (disch := omega) only [sh_hit, sh_miss, mz_hit, mz_miss, mzl_hit, mzl_miss, mu_hit, mu_miss, mul_hit, mul_miss]
    rw [sRowK_3]
  · simp (disch := omega) only [sh_hit, sh_miss, mz_hit, mz_miss, mzl_hit, mzl_miss, mu_hit, mu_miss, mul_hit, mul_miss]
  · simp (disch := omega) only [sh_hit, sh_miss, mz_hit, mz_miss, mzl_hit, mzl_miss, mu_hit, mu_miss, mul_hit, mul_miss]
  · simp (disch := omega) only [sh_hit, sh_miss, mz_hit, mz_miss, mzl_hit, mzl_miss, mu_hit, mu_miss, mul_hit, mul_miss]
  · simp (disch := omega) only [sh_hit, sh_miss, mz_hit, mz_miss, mzl_hit, mzl_miss, mu_hit, mu_miss, mul_hit, mul_miss]
    exact ⟨trivial, trivial⟩
theorem k_X3i {Q : Nat → SH → MI → ML → Prop} (hQ : ∀ (S1 : SH) (J : MI) (L1 : ML), KP a 4 Sh I L S1 J L1 → isPre G S1 a → J a 3 = 0 ∧ J a 4 = 0 ∧ J a 5 = 0 ∧ J a 6 = -1 → Q (a + 4) S1 J L1) : wp_X3_init G (a + 1) Sh a I L Q := by
  unfold wp_X3_init
  refine ⟨by omega, fun S1 s1 A1 a1 B1 b1 => ⟨by omega, fun S2 s2 => ⟨by omega, fun S3 s3 A2 a2 B2 b2 => ⟨by omega, fun S4 s4 => ⟨by omega, fun S5 s5 A3 a3 B3 b3 => ⟨by omega, fun S6 s6 A4 a4 A5 a5 A6 a6 A7 a7 A8 a8 => ⟨by omega, ?_⟩⟩⟩⟩⟩⟩⟩
  subst s1 a1 b1 s2 s3 a2 b2 s4 s5 a3 b3 s6 a4 a5 a6 a7 a8
  refine hQ _ _ _ (fun b hb => ⟨?_, fun k => ?_, fun k => ?_⟩) ⟨?_, ?_, ?_, ?_⟩ ?_
  · simp (disch := omega) only [sh_hit, sh_miss, mz_hit, mz_miss, mzl_hit, mzl_miss, mu_hit, mu_miss, mul_hit, mul_miss]
  · simp (disch := omega) only [sh_hit, sh_miss, mz_hit, mz_miss, mzl_hit, mzl_miss, mu_hit, mu_miss, mul_hit, mul_miss]
  · simp (disch := omega) only [sh_hit, sh_miss, mz_hit, mz_miss, mzl_hit, mzl_miss, mu_hit, mu_miss, mul_hit, mul_miss]
  · simp (disch := omega) only [sh_hit, sh_miss, mz_hit, mz_miss, mzl_hit, mzl_miss, mu_hit, mu_miss, mul_hit, mul_miss]
    rw [sPreK_3]
  · simp (disch := omega) only [sh_hit, sh_miss, mz_hit, mz_miss, mzl_hit, mzl_miss, mu_hit, mu_miss, mul_hit, mul_miss]
  · simp (disch := omega) only [sh_hit, sh_miss, mz_hit, mz_miss, mzl_hit, mzl_miss, mu_hit, mu_miss, mul_hit, mul_miss]
  · simp (disch := omega) only [sh_hit, sh_miss, mz_hit, mz_miss, mzl_hit, mzl_miss, mu_hit, mu_miss, mul_hit, mul_miss]
  · simp (disch := omega) only [sh_hit, sh_miss, mz_hit, mz_miss, mzl_hit, mzl_miss, mu_hit, mu_miss, mul_hit, mul_miss]
    exact ⟨trivial, trivial, trivial, trivial⟩
theorem k_X2i {Q : Nat → SH → MI → ML → Prop} (hQ : ∀ (S1 : SH) (J : MI), KP a 26 Sh I L S1 J L → isNeeds G S1 a → Q (a + 26) S1 J L) : wp_X2_init G (a + 1) Sh a I L Q := by
  unfold wp_X2_init
  refine ⟨by omega, fun S1 s1 A1 a1 => ⟨by omega, fun S2 s2 => ⟨by omega, ?_⟩⟩⟩
  subst s1 a1 s2
  refine hQ _ _ (fun b hb => ⟨?_, fun k => ?_, fun k => rfl⟩) ⟨?_, ?_, fun i hi => ?_⟩
  · rw [sh_miss (by omega)]
    unfold shm
    rw [if_neg (by omega), if_neg (by omega)]
  · unfold mzm
    rw [if_neg (by omega)]
  · rw [sh_hit rfl, sNeedsK_1]
  · rw [sh_miss (by omega)]
    unfold shm
    rw [if_pos rfl]
  · rw [sh_miss (by omega)]
    unfold shm
    rw [if_neg (by omega), if_pos (by omega)]
theorem k_X1i {Q : Nat → SH → MI → ML → Prop} (hQ : ∀ (S1 : SH) (J : MI) (L1 : ML), KP a 33 Sh I L S1 J L1 → isLast G S1 a → J a 7 = 0 ∧ J a 8 = 0 ∧ J a 11 = -1 ∧ L1 a 9 = 0 ∧ L1 a 10 = 0 ∧ L1 a 12 = 0 → Q (a + 33) S1 J L1) : wp_X1_init G (a + 1) Sh a I L Q := by
  unfold wp_X1_init
  refine ⟨by omega, fun S1 s1 A1 a1 B1 b1 => ⟨by omega, fun S2 s2 => ⟨by omega, fun S3 s3 A2 a2 B2 b2 => ⟨by omega, fun S4 s4 => ⟨by omega, fun S5 s5 A3 a3 B3 b3 => ⟨by omega, fun S6 s6 => ⟨by omega, fun S7 s7 A4 a4 B4 b4 => ⟨by omega, fun S8 s8 => ⟨by omega, fun S9 s9 A5 a5 B5 b5 => ⟨by omega, fun S10 s10 => ⟨by omega, fun S11 s11 A6 a6 B6 b6 => ⟨by omega, fun S12 s12 => ⟨by omega, fun S13 s13 A7 a7 B7 b7 => ⟨by omega, ?_⟩⟩⟩⟩⟩⟩⟩⟩⟩⟩⟩⟩⟩⟩
  subst s1 a1 b1 s2 s3 a2 b2 s4 s5 a3 b3 s6 s7 a4 b4 s8 s9 a5 b5 s10 s11 a6 b6 s12 s13 a7 b7
  rw [show a + 1 + 7 = (a + 7) + 1 from rfl, show a + 1 + 6 = a + 7 from rfl]
  refine k_X2i (fun T1 J kp nd => ⟨?_, ?_, rfl, fun T2 t2 C1 c1 C2 c2 D1 d1 D2 d2 C3 c3 D3 d3 => ⟨by omega, ?_⟩⟩)
  · rw [(kp a (by omega)).1]
    simp (disch := omega) only [sh_hit, sh_miss, mz_hit, mz_miss, mzl_hit, mzl_miss, mu_hit, mu_miss, mul_hit, mul_miss]
  · rw [sNeedsK_1]; exact nd.1
  · subst t2 c1 c2 d1 d2 c3 d3
    have hk : ∀ b : Nat, b < a ∨ a + 33 ≤ b → _ := fun b hb => kp b (by omega)
    refine hQ _ _ _ (fun b hb => ⟨?_, fun k => ?_, fun k => ?_⟩) ⟨?_, ?_, ?_, ?_, ?_, ?_, ?_, ?_⟩ ?_
    · rw [sh_miss (by omega), (kp b (by omega)).1]
      simp (disch := omega) only [sh_hit, sh_miss, mz_hit, mz_miss, mzl_hit, mzl_miss, mu_hit, mu_miss, mul_hit, mul_miss]
    · rw [mu_miss (by omega), mu_miss (by omega), mu_miss (by omega), (kp b (by omega)).2.1]
      simp (disch := omega) only [sh_hit, sh_miss, mz_hit, mz_miss, mzl_hit, mzl_miss, mu_hit, mu_miss, mul_hit, mul_miss]
    · rw [mul_miss (by omega), mul_miss (by omega), mul_miss (by omega)]
      simp (disch := omega) only [sh_hit, sh_miss, mz_hit, mz_miss, mzl_hit, mzl_miss, mu_hit, mu_miss, mul_hit, mul_miss]
    · rw [sh_hit rfl, sLastK_7]
    · rw [sh_miss (by omega), (kp _ (by omega)).1]
      simp (disch := omega) only [sh_hit, sh_miss, mz_hit, mz_miss, mzl_hit, mzl_miss, mu_hit, mu_miss, mul_hit, mul_miss]
    · rw [sh_miss (by omega), (kp _ (by omega)).1]
      simp (disch := omega) only [sh_hit, sh_miss, mz_hit, mz_miss, mzl_hit, mzl_miss, mu_hit, mu_miss, mul_hit, mul_miss]
    · rw [sh_miss (by omega), (kp _ (by omega)).1]
      simp (disch := omega) only [sh_hit, sh_miss, mz_hit, mz_miss, mzl_hit, mzl_miss, mu_hit, mu_miss, mul_hit, mul_miss]
    · rw [sh_miss (by omega), (kp _ (by omega)).1]
      simp (disch := omega) only [sh_hit, sh_miss, mz_hit, mz_miss, mzl_hit, mzl_miss, mu_hit, mu_miss, mul_hit, mul_miss]
    · rw [sh_miss (by omega), (kp _ (by omega)).1]
      simp (disch := omega) only [sh_hit, sh_miss, mz_hit, mz_miss, mzl_hit, mzl_miss, mu_hit, mu_miss, mul_hit, mul_miss]
    · rw [sh_miss (by omega), (kp _ (by omega)).1]
      simp (disch := omega) only [sh_hit, sh_miss, mz_hit, mz_miss, mzl_hit, mzl_miss, mu_hit, mu_miss, mul_hit, mul_miss]
    · obtain ⟨n1, n2, n3⟩ := nd
      exact ⟨by rw [sh_miss (by omega)]; exact n1, by rw [sh_miss (by omega)]; exact n2, fun i hi => by rw [sh_miss (by omega)]; exact n3 i hi⟩
    · simp (disch := omega) only [sh_hit, sh_miss, mz_hit, mz_miss, mzl_hit, mzl_miss, mu_hit, mu_miss, mul_hit, mul_miss]
      exact ⟨trivial, trivial, trivial, trivial, trivial, trivial⟩
end MK
