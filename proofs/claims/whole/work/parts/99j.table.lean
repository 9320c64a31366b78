section MT
variable {K : Nat} {G : GX} {x m o n : Nat} {Sh S1 S2 : SH} {F : Nat → Option Nat} {I I0 I1 I2 J : MI} {L L0 L1 L2 : ML} {tb : Nat → Nat} {T : Nat → TS} {U V : TS} {b t N cols i r a z w : Nat}
theorem isPre.of (h : isPre G S1 a) (e : ∀ b, a ≤ b → b < a + 4 → S2 b = S1 b) : isPre G S2 a := by
  unfold isPre
  rw [e a (by omega) (by omega), e (a + 1) (by omega) (by omega), e (a + 2) (by omega) (by omega), e (a + 3) (by omega) (by omega)]
  exact h
theorem isRow.of (h : isRow G S1 a) (e : ∀ b, a ≤ b → b < a + 4 → S2 b = S1 b) : isRow G S2 a := by
  unfold isRow
  rw [e a (by omega) (by omega), e (a + 1) (by omega) (by omega), e (a + 2) (by omega) (by omega), e (a + 3) (by omega) (by omega)]
  exact h
theorem isLast.of (h : isLast G S1 a) (e : ∀ b, a ≤ b → b < a + 33 → S2 b = S1 b) : isLast G S2 a := by
  obtain ⟨h1, h2, h3, h4, h5, h6, h7, n1, n2, n3⟩ := h
  refine ⟨?_, ?_, ?_, ?_, ?_, ?_, ?_, ?_, ?_, fun i hi => ?_⟩ <;> rw [e _ (by omega) (by omega)]
  · exact h1
  · exact h2
  · exact h3
  · exact h4
  · exact h5
  · exact h6
  · exact h7
  · exact n1
  · exact n2
  · exact n3 i hi
theorem isTable.of (h : isTable G S1 a) (e : ∀ b, a ≤ b → b < a + 134 → S2 b = S1 b) : isTable G S2 a := by
  obtain ⟨h1, h2, h3, h4, h5, h6, h7, h8⟩ := h
  refine ⟨?_, h2.of (fun b q1 q2 => e b (by omega) (by omega)), ?_, ?_, ?_, h6.of (fun b q1 q2 => e b (by omega) (by omega)), fun i hi => ?_, fun i hi => (h8 i hi).of (fun b q1 q2 => e b (by omega) (by omega))⟩ <;> rw [e _ (by omega) (by omega)]
  · exact h1
  · exact h3
  · exact h4
  · exact h5
  · exact h7 i hi
theorem KP.tr {a w a2 w2 : Nat} (h : KP a w Sh I L S1 I1 L1) (h2 : KP a2 w2 S1 I1 L1 S2 I2 L2) (hs : a ≤ a2 ∧ a2 + w2 ≤ a + w) : KP a w Sh I L S2 I2 L2 := fun b hb => by
  obtain ⟨p1, p2, p3⟩ := h b hb
  obtain ⟨q1, q2, q3⟩ := h2 b (by omega)
  exact ⟨q1.trans p1, fun k => (q2 k).trans (p2 k), fun k => (q3 k).trans (p3 k)⟩
/-- a table half made: i glues, r rows -/
def StT (G : GX) (Sh : SH) (I : MI) (L : ML) (t i r : Nat) (S1 : SH) (J : MI) (L1 : ML) : Prop := KP t 134 Sh I L S1 J L1 ∧ S1 t = some (sTableK 5 t) ∧ isPre G S1 (t + 1) ∧ S1 (t + 5) = some (sQ G 4 13 (fun j => if j < i then some (t + 41 + j) else none)) ∧ S1 (t + 6) = some (sQ G 5 20 (fun j => if j < r then some (t + 54 + 4 * j) else none)) ∧ S1 (t + 7) = some (sI G 40) ∧ isLast G S1 (t + 8) ∧ (∀ j, j < i → S1 (t + 41 + j) = some sGlue ∧ J (t + 41 + j) 0 = 0 ∧ J (t + 41 + j) 1 = 0 ∧ J (t + 41 + j) 2 = 0 ∧ J (t + 41 + j) 3 = 0 ∧ J (t + 41 + j) 4 = 0) ∧ (∀ j, j < r → isRow G S1 (t + 54 + 4 * j) ∧ J (t + 54 + 4 * j) 3 = 0 ∧ J (t + 54 + 4 * j) 4 = 0) ∧ (J t 5 = 0 ∧ J t 6 = 0 ∧ J t 7 = 0 ∧ J t 8 = 0) ∧ (J (t + 1) 3 = 0 ∧ J (t + 1) 4 = 0 ∧ J (t + 1) 5 = 0 ∧ J (t + 1) 6 = -1) ∧ J (t + 8) 7 = 0 ∧ J (t + 8) 8 = 0 ∧ J (t + 8) 11 = -1 ∧ L1 (t + 8) 9 = 0 ∧ L1 (t + 8) 10 = 0 ∧ L1 (t + 8) 12 = 0
theorem StT.mono (h : StT G Sh I L t i r S1 J L1) {J2 : MI} (kp : KP z w S1 J L1 S2 J2 L2) (hz : t + 41 + i ≤ z) (hr : r = 0 ∨ i = 13 ∧ t + 54 + 4 * r ≤ z) (hw : z + w ≤ t + 134) : StT G Sh I L t i r S2 J2 L2 := by
  obtain ⟨h0, h1, h2, h3, h4, h5, h6, h7, h8, ⟨a1, a2, a3, a4⟩, ⟨b1, b2, b3, b4⟩, c1, c2, c3, c4, c5, c6⟩ := h
  have e : ∀ b, b < z → S2 b = S1 b ∧ (∀ k, J2 b k = J b k) ∧ ∀ k, L2 b k = L1 b k := fun b hb => kp b (Or.inl hb)
  refine ⟨h0.tr kp (by omega), by rw [(e t (by omega)).1]; exact h1, h2.of (fun b q1 q2 => (e b (by omega)).1), by rw [(e _ (by omega)).1]; exact h3, by rw [(e _ (by omega)).1]; exact h4, by rw [(e _ (by omega)).1]; exact h5, h6.of (fun b q1 q2 => (e b (by omega)).1), fun j hj => ?_, fun j hj => ?_, ⟨?_, ?_, ?_, ?_⟩, ⟨?_, ?_, ?_, ?_⟩, ?_, ?_, ?_, ?_, ?_, ?_⟩
  · obtain ⟨e1, e2, -⟩ := e (t + 41 + j) (by omega)
    rw [e1, e2, e2, e2, e2, e2]
    exact h7 j hj
  · have q := h8 j hj
    refine ⟨q.1.of (fun b q1 q2 => (e b (by omega)).1), ?_, ?_⟩
    · rw [(e _ (by omega)).2.1]; exact q.2.1
    · rw [(e _ (by omega)).2.1]; exact q.2.2
  · rw [(e _ (by omega)).2.1]; exact a1
  · rw [(e _ (by omega)).2.1]; exact a2
  · rw [(e _ (by omega)).2.1]; exact a3
  · rw [(e _ (by omega)).2.1]; exact a4
  · rw [(e _ (by omega)).2.1]; exact b1
  · rw [(e _ (by omega)).2.1]; exact b2
  · rw [(e _ (by omega)).2.1]; exact b3
  · rw [(e _ (by omega)).2.1]; exact b4
  · rw [(e _ (by omega)).2.1]; exact c1
  · rw [(e _ (by omega)).2.1]; exact c2
  · rw [(e _ (by omega)).2.1]; exact c3
  · rw [(e _ (by omega)).2.2]; exact c4
  · rw [(e _ (by omega)).2.2]; exact c5
  · rw [(e _ (by omega)).2.2]; exact c6
theorem StT.glue (h : StT G Sh I L t i 0 S1 J L1) (hg : S1 (t + 41 + i) = some sGlue ∧ J (t + 41 + i) 0 = 0 ∧ J (t + 41 + i) 1 = 0 ∧ J (t + 41 + i) 2 = 0 ∧ J (t + 41 + i) 3 = 0 ∧ J (t + 41 + i) 4 = 0) : StT G Sh I L t (i + 1) 0 (shu S1 (t + 5) (sQ G 4 13 (va_up (fun j => if j < i then some (t + 41 + j) else none) i (some (t + 41 + i))))) J L1 := by
  obtain ⟨h0, h1, h2, h3, h4, h5, h6, h7, h8, hr⟩ := h
  refine ⟨fun b hb => ⟨by rw [sh_miss (by omega)]; exact (h0 b hb).1, (h0 b hb).2⟩, by rw [sh_miss (by omega)]; exact h1, h2.of (fun b q1 q2 => sh_miss (by omega)), ?_, by rw [sh_miss (by omega)]; exact h4, by rw [sh_miss (by omega)]; exact h5, h6.of (fun b q1 q2 => sh_miss (by omega)), fun j hj => ?_, fun j hj => absurd hj (by omega), hr⟩
  · rw [sh_hit rfl]
    congr 2
    funext j
    unfold va_up
    by_cases e : j = i
    · rw [if_pos e, if_pos (by omega), e]
    · rw [if_neg e]
      dsimp only
      by_cases e2 : j < i
      · rw [if_pos e2, if_pos (by omega)]
      · rw [if_neg e2, if_neg (by omega)]
  · rw [sh_miss (by omega)]
    by_cases e : j = i
    · rw [e]; exact hg
    · exact h7 j (by omega)
theorem StT.row (h : StT G Sh I L t 13 r S1 J L1) (hg : isRow G S1 (t + 54 + 4 * r) ∧ J (t + 54 + 4 * r) 3 = 0 ∧ J (t + 54 + 4 * r) 4 = 0) : StT G Sh I L t 13 (r + 1) (shu S1 (t + 6) (sQ G 5 20 (va_up (fun j => if j < r then some (t + 54 + 4 * j) else none) r (some (t + 54 + 4 * r))))) J L1 := by
  obtain ⟨h0, h1, h2, h3, h4, h5, h6, h7, h8, hr⟩ := h
  refine ⟨fun b hb => ⟨by rw [sh_miss (by omega)]; exact (h0 b hb).1, (h0 b hb).2⟩, by rw [sh_miss (by omega)]; exact h1, h2.of (fun b q1 q2 => sh_miss (by omega)), by rw [sh_miss (by omega)]; exact h3, ?_, by rw [sh_miss (by omega)]; exact h5, h6.of (fun b q1 q2 => sh_miss (by omega)), fun j hj => by rw [sh_miss (by omega)]; exact h7 j hj, fun j hj => ?_, hr⟩
  · rw [sh_hit rfl]
    congr 2
    funext j
    unfold va_up
    by_cases e : j = r
    · rw [if_pos e, if_pos (by omega), e]
    · rw [if_neg e]
      dsimp only
      by_cases e2 : j < r
      · rw [if_pos e2, if_pos (by omega)]
      · rw [if_neg e2, if_neg (by omega)]
  · by_cases e : j = r
    · rw [e]
      exact ⟨hg.1.of (fun b q1 q2 => sh_miss (by omega)), hg.2⟩
    · exact ⟨(h8 j (by omega)).1.of (fun b q1 q2 => sh_miss (by omega)), (h8 j (by omega)).2⟩
theorem k_X5rows {Q : Nat → SH → MI → ML → Prop} (hQ : ∀ (S1 : SH) (J : MI) (L1 : ML), StT G Sh I L t 13 20 S1 J L1 → Q (t + 134) S1 J L1) : ∀ (d r : Nat), r + d = 20 → ∀ (S1 : SH) (J : MI) (L1 : ML), StT G Sh I L t 13 r S1 J L1 → wp_X5_init_104 G t Q (d + 1) (t + 54 + 4 * r) (53 + 4 * r) (611 + 77 * r) (iI r) S1 J L1 := by
  intro d
  induction d with
  | zero =>
    intro r h1 S1 J L1 h
    show wb_X5_init_104 G t Q _ _ _ _ _ S1 J L1
    unfold wb_X5_init_104
    refine ⟨_, h.2.2.2.2.1, le_br iI_20 rfl (by omega) (by omega) (fun _ => ⟨by omega, ?_⟩) (fun z => absurd (by omega) z)⟩
    rw [show r = 20 by omega] at h ⊢
    exact hQ S1 J L1 h
  | succ d ih =>
    intro r h1 S1 J L1 h
    show wb_X5_init_104 G t Q (wp_X5_init_104 G t Q (d + 1)) _ _ _ _ S1 J L1
    unfold wb_X5_init_104
    refine ⟨_, h.2.2.2.2.1, le_br iI_20 rfl (by omega) (by omega) (fun z => absurd z (by omega)) (fun _ => ⟨_, h.2.2.2.2.1, by omega, fun S2 s2 A a B b => ⟨by omega, ?_⟩⟩)⟩
    subst s2 a b
    refine k_X4i (fun S3 J3 L3 kp row z0 => ?_)
    have kp2 : KP (t + 54 + 4 * r) 4 S1 J L1 S3 J3 L3 := fun b hb => by
      obtain ⟨p1, p2, p3⟩ := kp b hb
      refine ⟨by rw [p1, sh_miss (by omega)], fun k => by rw [p2, mz_miss (by omega)], fun k => by rw [p3, mzl_miss (by omega)]⟩
    have h3 := h.mono kp2 (by omega) (Or.inr ⟨rfl, by omega⟩) (by omega)
    refine ⟨h3.2.1, by rw [sRowK_3]; exact row.1, h3.2.2.2.2.1, in_ok rfl (by omega) (by omega), fun S4 s4 x e => ?_⟩
    rw [nat_ok rfl (by omega)] at s4
    rw [e, iI_1, iI_add, s4]
    exact ih (r + 1) (by omega) _ J3 L3 (h3.row ⟨row, z0⟩)
theorem k_X5glues {Q : Nat → SH → MI → ML → Prop} (hQ : ∀ (S1 : SH) (J : MI) (L1 : ML), StT G Sh I L t 13 20 S1 J L1 → Q (t + 134) S1 J L1) : ∀ (d i : Nat), i + d = 13 → ∀ (S1 : SH) (J : MI) (L1 : ML), StT G Sh I L t i 0 S1 J L1 → wp_X5_init_74 G t Q (d + 1) (t + 41 + i) (40 + i) (546 + 5 * i) (iI i) S1 J L1 := by
  intro d
  induction d with
  | zero =>
    intro i h1 S1 J L1 h
    show wb_X5_init_74 G t Q _ _ _ _ _ S1 J L1
    unfold wb_X5_init_74
    rw [show i = 13 by omega] at h ⊢
    refine ⟨_, h.2.2.2.1, le_br iI_13 rfl (by omega) (by omega) (fun _ => ⟨21, ?_⟩) (fun z => absurd (by omega) z)⟩
    exact k_X5rows hQ 20 0 (by omega) S1 J L1 h
  | succ d ih =>
    intro i h1 S1 J L1 h
    show wb_X5_init_74 G t Q (wp_X5_init_74 G t Q (d + 1)) _ _ _ _ S1 J L1
    unfold wb_X5_init_74
    refine ⟨_, h.2.2.2.1, le_br iI_13 rfl (by omega) (by omega) (fun z => absurd z (by omega)) (fun _ => ⟨_, h.2.2.2.1, by omega, fun S2 s2 A a B b => ⟨by omega, ?_⟩⟩)⟩
    subst s2 a b
    refine k_X0i (fun J3 off z0 => ?_)
    have kp2 : KP (t + 41 + i) 1 S1 J L1 (shu S1 (t + 41 + i) sGlue) J3 (mzl L1 (t + 41 + i)) := fun b hb => by
      refine ⟨sh_miss (by omega), fun k => by rw [off b (by omega), mz_miss (by omega)], fun k => by rw [mzl_miss (by omega)]⟩
    have h3 := h.mono kp2 (by omega) (Or.inl rfl) (by omega)
    refine ⟨h3.2.1, sh_hit rfl, h3.2.2.2.1, in_ok rfl (by omega) (by omega), fun S4 s4 x e => ?_⟩
    rw [nat_ok rfl (by omega)] at s4
    rw [e, iI_1, iI_add, s4]
    exact ih (i + 1) (by omega) _ J3 _ (h3.glue ⟨sh_hit rfl, z0⟩)
theorem k_X5i {Q : Nat → SH → MI → ML → Prop} (h0 : Sh t = some (sTableK 0 t)) (hQ : ∀ (S1 : SH) (J : MI) (L1 : ML), StT G Sh I L t 13 20 S1 J L1 → Q (t + 134) S1 J L1) : wp_X5_init G (t + 1) Sh t I L Q := by
  unfold wp_X5_init
  refine ⟨by omega, fun S1 s1 A1 a1 B1 b1 => ⟨by omega, k_X3i (fun S2 J2 L2 kp2 pre p0 => ?_)⟩⟩
  subst s1 a1 b1
  have kq : KP (t + 1) 4 Sh I L S2 J2 L2 := fun b hb => by
    obtain ⟨p1, p2, p3⟩ := kp2 b hb
    exact ⟨by rw [p1, sh_miss (by omega)], fun k => by rw [p2, mz_miss (by omega)], fun k => by rw [p3, mzl_miss (by omega)]⟩
  refine ⟨by rw [(kq t (by omega)).1]; exact h0, by rw [sPreK_3]; exact pre.1, rfl, fun S3 s3 => ⟨by omega, fun S4 s4 A4 a4 B4 b4 => ⟨by omega, fun S5 s5 => ⟨by omega, fun S6 s6 A6 a6 B6 b6 => ⟨by omega, fun S7 s7 => ⟨by omega, fun S8 s8 A8 a8 B8 b8 => ⟨by omega, fun S9 s9 => ⟨by omega, fun S10 s10 A10 a10 B10 b10 => ⟨by omega, ?_⟩⟩⟩⟩⟩⟩⟩⟩⟩
  rw [show t + 1 + 4 + 4 = (t + 8) + 1 from rfl, show t + 1 + 4 + 3 = t + 8 from rfl]
  refine k_X1i (fun T1 J3 L3 kp3 las l0 => ?_)
  subst s3 s4 a4 b4 s5 s6 a6 b6 s7 s8 a8 b8 s9 s10 a10 b10
  refine ⟨?_, by rw [sLastK_7]; exact las.1, rfl, fun T2 t2 C1 c1 C2 c2 C3 c3 C4 c4 => ⟨14, ?_⟩⟩
  · rw [(kp3 t (by omega)).1]
    simp (disch := omega) only [sh_hit, sh_miss, mz_hit, mz_miss, mzl_hit, mzl_miss, mu_hit, mu_miss, mul_hit, mul_miss]
  subst t2 c1 c2 c3 c4
  rw [show t + 8 + 33 = t + 41 + 0 from rfl]
  refine k_X5glues hQ 13 0 (by omega) _ _ _ ⟨fun b hb => ⟨?_, fun k => ?_, fun k => ?_⟩, ?_, pre.of (fun b q1 q2 => ?_), ?_, ?_, ?_, las.of (fun b q1 q2 => ?_), fun j hj => absurd hj (by omega), fun j hj => absurd hj (by omega), ?_, ?_, ?_⟩
  · rw [sh_miss (by omega), (kp3 b (by omega)).1]
    simp (disch := omega) only [sh_hit, sh_miss, mz_hit, mz_miss, mzl_hit, mzl_miss, mu_hit, mu_miss, mul_hit, mul_miss]
    exact (kq b (by omega)).1
  · rw [mu_miss (by omega), mu_miss (by omega), mu_miss (by omega), mu_miss (by omega), (kp3 b (by omega)).2.1]
    simp (disch := omega) only [sh_hit, sh_miss, mz_hit, mz_miss, mzl_hit, mzl_miss, mu_hit, mu_miss, mul_hit, mul_miss]
    exact (kq b (by omega)).2.1 k
  · rw [(kp3 b (by omega)).2.2]
    simp (disch := omega) only [sh_hit, sh_miss, mz_hit, mz_miss, mzl_hit, mzl_miss, mu_hit, mu_miss, mul_hit, mul_miss]
    exact (kq b (by omega)).2.2 k
  · rw [sh_hit rfl]
  · rw [sh_miss (by omega), (kp3 b (by omega)).1]
    simp (disch := omega) only [sh_hit, sh_miss, mz_hit, mz_miss, mzl_hit, mzl_miss, mu_hit, mu_miss, mul_hit, mul_miss]
  · rw [sh_miss (by omega), (kp3 _ (by omega)).1]
    simp (disch := omega) only [sh_hit, sh_miss, mz_hit, mz_miss, mzl_hit, mzl_miss, mu_hit, mu_miss, mul_hit, mul_miss]
    rfl
  · rw [sh_miss (by omega), (kp3 _ (by omega)).1]
    simp (disch := omega) only [sh_hit, sh_miss, mz_hit, mz_miss, mzl_hit, mzl_miss, mu_hit, mu_miss, mul_hit, mul_miss]
    rfl
  · rw [sh_miss (by omega), (kp3 _ (by omega)).1]
    simp (disch := omega) only [sh_hit, sh_miss, mz_hit, mz_miss, mzl_hit, mzl_miss, mu_hit, mu_miss, mul_hit, mul_miss]
  · rw [sh_miss (by omega)]
  · simp (disch := omega) only [sh_hit, sh_miss, mz_hit, mz_miss, mzl_hit, mzl_miss, mu_hit, mu_miss, mul_hit, mul_miss]
    exact ⟨trivial, trivial, trivial, trivial⟩
  · obtain ⟨z3, z4, z5, z6⟩ := p0
    have e : ∀ k, (mu (mu (mu (mu J3 t 5 0) t 6 0) t 7 0) t 8 0) (t + 1) k = J2 (t + 1) k := fun k => by
      rw [mu_miss (by omega), mu_miss (by omega), mu_miss (by omega), mu_miss (by omega), (kp3 (t + 1) (by omega)).2.1]
      simp (disch := omega) only [sh_hit, sh_miss, mz_hit, mz_miss, mzl_hit, mzl_miss, mu_hit, mu_miss, mul_hit, mul_miss]
    rw [e, e, e, e]
    exact ⟨z3, z4, z5, z6⟩
  · obtain ⟨z1, z2, z3, z4⟩ := l0
    rw [mu_miss (by omega), mu_miss (by omega), mu_miss (by omega), mu_miss (by omega), mu_miss (by omega), mu_miss (by omega), mu_miss (by omega), mu_miss (by omega), mu_miss (by omega), mu_miss (by omega), mu_miss (by omega), mu_miss (by omega)]
    exact ⟨z1, z2, z3, z4⟩
end MT
