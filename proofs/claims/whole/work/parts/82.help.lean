/-! frames, and the small methods -/
def CF (t : Nat) (I : MI) (L : ML) (I1 : MI) (L1 : ML) : Prop := ∀ a : Nat, a < t ∨ t + 134 ≤ a → I1 a = I a ∧ L1 a = L a
def MF (m i : Nat) (I : MI) (L : ML) (I1 : MI) (L1 : ML) : Prop := (∀ a : Nat, a < m ∨ m + 35 ≤ a → I1 a = I a ∧ L1 a = L a) ∧ I1 m 1 = I m 1 ∧ ∀ (T : TS) (j : Nat), j ≠ i → RM T m j I L → RM T m j I1 L1
theorem CF.rf {t : Nat} {I : MI} {L : ML} : CF t I L I L := fun _ _ => ⟨rfl, rfl⟩
theorem CF.tr {t : Nat} {I I1 I2 : MI} {L L1 L2 : ML} (h : CF t I L I1 L1) (h2 : CF t I1 L1 I2 L2) : CF t I L I2 L2 := fun a ha => ⟨(h2 a ha).1.trans (h a ha).1, (h2 a ha).2.trans (h a ha).2⟩
theorem CF.mu {t a k : Nat} {v : Int32} {I I1 : MI} {L L1 : ML} (h : CF t I L I1 L1) (ha : t ≤ a ∧ a < t + 134) : CF t I L (mu I1 a k v) L1 := fun b hb => ⟨by rw [mu_off (by omega)]; exact (h b hb).1, (h b hb).2⟩
theorem CF.mul {t a k : Nat} {v : Int64} {I I1 : MI} {L L1 : ML} (h : CF t I L I1 L1) (ha : t ≤ a ∧ a < t + 134) : CF t I L I1 (mul L1 a k v) := fun b hb => ⟨(h b hb).1, by rw [mul_off (by omega)]; exact (h b hb).2⟩
theorem MF.rf {m i : Nat} {I : MI} {L : ML} : MF m i I L I L := ⟨fun _ _ => ⟨rfl, rfl⟩, rfl, fun _ _ _ h => h⟩
theorem MF.tr {m i : Nat} {I I1 I2 : MI} {L L1 L2 : ML} (h : MF m i I L I1 L1) (h2 : MF m i I1 L1 I2 L2) : MF m i I L I2 L2 := ⟨fun a ha => ⟨(h2.1 a ha).1.trans (h.1 a ha).1, (h2.1 a ha).2.trans (h.1 a ha).2⟩, h2.2.1.trans h.2.1, fun T j hj q => h2.2.2 T j hj (h.2.2 T j hj q)⟩
theorem MF.fld {m i k : Nat} {v : Int32} {I I1 : MI} {L L1 : ML} (h : MF m i I L I1 L1) (hk : k ≠ 1) : MF m i I L (mu I1 m k v) L1 := h.tr ⟨fun a ha => ⟨mu_off (by omega), rfl⟩, by rw [mu_miss (Or.inr (by omega))], fun T j _ q => q.out (by omega)⟩
theorem MF.scr {m i a k : Nat} {v : Int32} {I I1 : MI} {L L1 : ML} (h : MF m i I L I1 L1) (ha : a = m + 33 ∨ a = m + 34) : MF m i I L (mu I1 a k v) L1 := h.tr ⟨fun b hb => ⟨mu_off (by omega), rfl⟩, by rw [mu_miss (Or.inl (by omega))], fun T j _ q => q.out (by omega)⟩
theorem MF.mu {m i j : Nat} {v : Int32} {I I1 : MI} {L L1 : ML} (h : MF m i I L I1 L1) (f k : Nat) (hf : 1 ≤ f ∧ f ≤ 32) (hk : k < wid f) (hj : j = wid f * i + k) : MF m i I L (mu I1 (m + f) j v) L1 := h.tr ⟨fun b hb => ⟨mu_off (by omega), rfl⟩, by rw [mu_miss (Or.inl (by omega))], fun T q hq w => w.else hq f k j hk hj⟩
theorem MF.mul {m i j : Nat} {v : Int64} {I I1 : MI} {L L1 : ML} (h : MF m i I L I1 L1) (f k : Nat) (hf : 1 ≤ f ∧ f ≤ 32) (hk : k < wid f) (hj : j = wid f * i + k) : MF m i I L I1 (mul L1 (m + f) j v) := h.tr ⟨fun b hb => ⟨rfl, mul_off (by omega)⟩, rfl, fun T q hq w => w.elseL hq f k j hk hj⟩
section HP
variable {K : Nat} {G : GX} {x m o n : Nat} {Sh : SH} {F : Nat → Option Nat} {I I1 I2 : MI} {L L1 L2 : ML} {tb : Nat → Nat} {T : Nat → TS}
/-- a call that changed nothing but the model's own cell -/
theorem Inv.same (h : Inv K G x m o Sh F I L n tb T) (i : Nat) (hi : n ≤ 6) (h1 : ∀ a : Nat, a < m ∨ m + 35 ≤ a → I1 a = I a) (h2 : I1 m 1 = I m 1) (h3 : ∀ f, 1 ≤ f → f ≤ 32 → I1 (m + f) = I (m + f)) : Rel (K + 1) G x m o Sh F I1 L := by
  obtain ⟨g, sh, ht, ⟨c1, c2⟩, hT, h0⟩ := h
  obtain ⟨g1, g2, g3, g4, g5⟩ := id g
  refine ⟨n, tb, T, g, sh, ht, ⟨by rw [h1 x (by omega)]; exact c1, by rw [h2]; exact c2⟩, fun i hi => ?_, fun i hi hi6 => (h0 i hi hi6).keep h3 (fun _ _ _ => rfl)⟩
  obtain ⟨a, b, c⟩ := hT i hi
  have := g4 i hi
  exact ⟨a.keep (fun q _ _ => h1 q (by omega)) (fun _ _ _ => rfl), b.keep h3 (fun _ _ _ => rfl), c.next⟩
theorem Inv.fault (h : Inv K G x m o Sh F I L n tb T) (v : Int32) : Rel (K + 1) G x m o Sh F (mu I m 0 v) L :=
  h.same 0 h.1.2.2.1 (fun a ha => mu_off (by omega)) (mu_miss (Or.inr (by omega))) (fun f _ _ => mu_off (by omega))
/-- a call that changed table i alone -/
theorem Inv.step (h : Inv K G x m o Sh F I L n tb T) {i : Nat} (hi : i < n) (T1 : TS) (hc : CF (tb i) I L I1 L1) (hRC : RC T1 (tb i) I1 L1) (hmf : MF m i I1 L1 I2 L2) (hRM : RM T1 m i I2 L2) (ok : Ok (K + 1) T1) : Rel (K + 1) G x m o Sh F I2 L2 := by
  obtain ⟨g, sh, ht, ⟨c1, c2⟩, hT, h0⟩ := h
  obtain ⟨g1, g2, g3, g4, g5⟩ := id g
  have g6 := g4 i hi
  have hm : ∀ a : Nat, m ≤ a → a < m + 35 → I1 a = I a ∧ L1 a = L a := fun a h1 h2 => hc a (by omega)
  refine ⟨n, tb, fun j => if j = i then T1 else T j, g, sh, ht, ⟨?_, ?_⟩, fun j hj => ?_, fun j hj h6 => ?_⟩
  · rw [(hmf.1 x (by omega)).1, (hc x (by omega)).1]; exact c1
  · rw [hmf.2.1, (hm m (by omega) (by omega)).1]; exact c2
  · have g7 := g4 j hj
    rcases Nat.decEq j i with e | e
    · obtain ⟨a, b, c⟩ := hT j hj
      simp only [if_neg e]
      have hd : tb j + 134 ≤ tb i ∨ tb i + 134 ≤ tb j := by
        rcases Nat.lt_or_ge i j with q | q
        · exact Or.inr (g5 i j q hj)
        · exact Or.inl (g5 j i (by omega) hi)
      refine ⟨a.keep (fun q _ _ => ?_) (fun q _ _ => ?_), hmf.2.2 _ _ e (b.keep (fun f _ _ => (hm _ (by omega) (by omega)).1) (fun f _ _ => (hm _ (by omega) (by omega)).2)), c.next⟩
      · rw [(hmf.1 q (by omega)).1]; exact (hc q (by omega)).1
      · rw [(hmf.1 q (by omega)).2]; exact (hc q (by omega)).2
    · subst e
      simp only [if_true]
      exact ⟨hRC.keep (fun q _ _ => (hmf.1 q (by omega)).1) (fun q _ _ => (hmf.1 q (by omega)).2), hRM, ok⟩
  · refine hmf.2.2 _ _ (by omega) ((h0 j hj h6).keep (fun f _ _ => (hm _ (by omega) (by omega)).1) (fun f _ _ => (hm _ (by omega) (by omega)).2))
theorem Inv.mrow (h : Inv K G x m o Sh F I L n tb T) {i : Nat} (hi : i < n) (hc : CF (tb i) I L I1 L1) : RM (T i) m i I1 L1 := by
  have g6 := h.1.2.2.2.1 i hi
  have g := h.1.2.1
  exact (h.2.2.2.2.1 i hi).2.1.keep (fun f _ _ => (hc _ (by omega)).1) (fun f _ _ => (hc _ (by omega)).2)
theorem Inv.mcnt (h : Inv K G x m o Sh F I L n tb T) {i : Nat} (hi : i < n) (hc : CF (tb i) I L I1 L1) : I1 m 1 = iI n := by
  have g6 := h.1.2.2.2.1 i hi
  have g := h.1.2.1
  rw [(hc m (by omega)).1]
  exact h.2.2.2.1.2
theorem k_isIn {p0 p1 p2 : Int32} {Q : Int32 → MI → ML → Prop} {a b c : Int} (h0 : p0 = iI a) (h1 : p1 = iI b) (h2 : p2 = iI c) (ra : -2147483648 ≤ a ∧ a < 2147483648) (rb : -2147483648 ≤ b ∧ b < 2147483648) (rc : -2147483648 ≤ c ∧ c < 2147483648) (k0 : ¬ (b ≤ a ∧ a ≤ c) → Q 0 I L) (k1 : b ≤ a ∧ a ≤ c → Q 1 I L) : wp_X6_isIn G Sh p0 p1 p2 I L Q := by
  subst h0 h1 h2
  unfold wp_X6_isIn
  simp (disch := omega) only [iI_0, iI_1, iI_2, iI_3, iI_4, iI_5, iI_6, iI_7, iI_8, iI_9, iI_10, iI_11, iI_12, iI_13, iI_20, iI_24, iI_35, iI_38, iI_40, iI_97, iI_122, iI_480, iI_10000, iI_100000, iI_1000000, jI_0, jI_1, jI_2, jI_3, jI_8, jI_10000, jI_100000, jI_1000000, iI_add, iI_sub, iI_mul, iI_neg, jI_add, jI_sub, jI_mul, jI_neg, iI_long, iI_in, iI_nat, iI_lt, iI_le, iI_eq, jI_lt, jI_le, jI_eq, lg0_lt, lg0_le, lg0_gt, lg0_ge, lg0_eq, true_and, tn_cast, tn_add, tn_sub, tn_mul, tn_lit]
  refine ⟨fun h => k0 (by omega), fun h => ⟨fun h' => k0 (by omega), fun h' => k1 (by omega)⟩⟩
theorem k_find {z : Int} {Q : Option Nat → MI → ML → Prop} (h : Inv K G x m o Sh F I L n tb T) (hz : -2147483648 ≤ z ∧ z < 2147483648) (k0 : ¬ (0 ≤ z ∧ z < n) → Q none I L) (k1 : ∀ i : Nat, i < n → z = (i : Int) → Q (some (tb i)) I L) : wp_X6_find G Sh x F (iI z) I L Q := by
  have hn := h.1.2.2.1
  unfold wp_X6_find
  refine k_isIn rfl iI_0 (show _ = iI ((n : Int) - 1) by rw [h.2.2.2.1.1, iI_1, iI_sub]) hz (by omega) (by omega) (fun q => br_y rfl (k0 (by omega))) (fun q => br_n (by decide) ?_)
  obtain ⟨i, rfl⟩ : ∃ i : Nat, z = (i : Int) := ⟨z.toNat, by omega⟩
  simp (disch := omega) only [iI_0, iI_1, iI_2, iI_3, iI_4, iI_5, iI_6, iI_7, iI_8, iI_9, iI_10, iI_11, iI_12, iI_13, iI_20, iI_24, iI_35, iI_38, iI_40, iI_97, iI_122, iI_480, iI_10000, iI_100000, iI_1000000, jI_0, jI_1, jI_2, jI_3, jI_8, jI_10000, jI_100000, jI_1000000, iI_add, iI_sub, iI_mul, iI_neg, jI_add, jI_sub, jI_mul, jI_neg, iI_long, iI_in, iI_nat, iI_lt, iI_le, iI_eq, jI_lt, jI_le, jI_eq, lg0_lt, lg0_le, lg0_gt, lg0_ge, lg0_eq, true_and, tn_cast, tn_add, tn_sub, tn_mul, tn_lit]
  refine ⟨by omega, ?_⟩
  rw [(h.2.2.1 i (by omega)).1]
  exact k1 i (by omega) rfl
theorem k_isT {z : Int} {Q : Int32 → MI → ML → Prop} (hm : I m 1 = iI n) (hn : n ≤ 6) (hz : -2147483648 ≤ z ∧ z < 2147483648) (k0 : ¬ (0 ≤ z ∧ z < n) → Q 0 I L) (k1 : 0 ≤ z ∧ z < n → Q 1 I L) : wp_X7_isTable G Sh m (iI z) I L Q := by
  unfold wp_X7_isTable
  rw [hm]
  simp (disch := omega) only [iI_0, iI_1, iI_2, iI_3, iI_4, iI_5, iI_6, iI_7, iI_8, iI_9, iI_10, iI_11, iI_12, iI_13, iI_20, iI_24, iI_35, iI_38, iI_40, iI_97, iI_122, iI_480, iI_10000, iI_100000, iI_1000000, jI_0, jI_1, jI_2, jI_3, jI_8, jI_10000, jI_100000, jI_1000000, iI_add, iI_sub, iI_mul, iI_neg, jI_add, jI_sub, jI_mul, jI_neg, iI_long, iI_in, iI_nat, iI_lt, iI_le, iI_eq, jI_lt, jI_le, jI_eq, lg0_lt, lg0_le, lg0_gt, lg0_ge, lg0_eq, true_and, tn_cast, tn_add, tn_sub, tn_mul, tn_lit]
  refine ⟨fun h => k0 (by omega), fun h => ⟨fun h' => k0 (by omega), fun h' => k1 (by omega)⟩⟩
theorem k_in {p0 p1 p2 : Int64} {Q : Int32 → MI → ML → Prop} {a b c : Int} (h0 : p0 = jI a) (h1 : p1 = jI b) (h2 : p2 = jI c) (ra : -9223372036854775808 ≤ a ∧ a < 9223372036854775808) (rb : -9223372036854775808 ≤ b ∧ b < 9223372036854775808) (rc : -9223372036854775808 ≤ c ∧ c < 9223372036854775808) (k0 : ¬ (b ≤ a ∧ a ≤ c) → Q 0 I L) (k1 : b ≤ a ∧ a ≤ c → Q 1 I L) : wp_X7_in G Sh p0 p1 p2 I L Q := by
  subst h0 h1 h2
  unfold wp_X7_in
  simp (disch := omega) only [iI_0, iI_1, iI_2, iI_3, iI_4, iI_5, iI_6, iI_7, iI_8, iI_9, iI_10, iI_11, iI_12, iI_13, iI_20, iI_24, iI_35, iI_38, iI_40, iI_97, iI_122, iI_480, iI_10000, iI_100000, iI_1000000, jI_0, jI_1, jI_2, jI_3, jI_8, jI_10000, jI_100000, jI_1000000, iI_add, iI_sub, iI_mul, iI_neg, jI_add, jI_sub, jI_mul, jI_neg, iI_long, iI_in, iI_nat, iI_lt, iI_le, iI_eq, jI_lt, jI_le, jI_eq, lg0_lt, lg0_le, lg0_gt, lg0_ge, lg0_eq, true_and, tn_cast, tn_add, tn_sub, tn_mul, tn_lit]
  refine ⟨fun h => k0 (by omega), fun h => ⟨fun h' => k0 (by omega), fun h' => k1 (by omega)⟩⟩
end HP
