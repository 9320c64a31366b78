section OP9
variable {K : Nat} {G : GX} {x m o n : Nat} {Sh : SH} {F : Nat → Option Nat} {I I1 I2 : MI} {L L1 L2 : ML} {tb : Nat → Nat} {T : Nat → TS}
def okS (v : Nat) : Prop := v = 0 ∨ v = 35 ∨ v = 38 ∨ 97 ≤ v ∧ v ≤ 122
/-- the twelve bytes, and how many of the first k are signs -/
def by3 (a b c : Int32) (k : Nat) : Nat := if k < 4 then bv a k else if k < 8 then bv b (k - 4) else bv c (k - 8)
def cnB (f : Nat → Nat) : Nat → Nat
  | 0 => 0
  | k + 1 => if f k = 0 then cnB f k else cnB f k + 1
theorem cnB_split (f : Nat → Nat) (q : Nat) : ∀ k, cnB f (q + k) = cnB f q + cnB (fun j => f (q + j)) k
  | 0 => rfl
  | k + 1 => by
    show (if f (q + k) = 0 then cnB f (q + k) else cnB f (q + k) + 1) = cnB f q + (if f (q + k) = 0 then cnB (fun j => f (q + j)) k else cnB (fun j => f (q + j)) k + 1)
    rw [cnB_split f q k]
    split <;> omega
theorem cnB_cong {f g : Nat → Nat} : ∀ {k}, (∀ j, j < k → f j = g j) → cnB f k = cnB g k
  | 0, _ => rfl
  | k + 1, h => by
    show (if f k = 0 then cnB f k else cnB f k + 1) = (if g k = 0 then cnB g k else cnB g k + 1)
    rw [cnB_cong (fun j hj => h j (by omega)), h k (by omega)]
theorem cnB_le (f : Nat → Nat) : ∀ k, cnB f k ≤ k
  | 0 => Nat.le_refl _
  | k + 1 => by
    have := cnB_le f k
    show (if f k = 0 then cnB f k else cnB f k + 1) ≤ k + 1
    split <;> omega
theorem cnB_mono (f : Nat → Nat) (q : Nat) : ∀ k, cnB f q ≤ cnB f (q + k) := fun k => by rw [cnB_split]; omega
theorem k_onlySigns {p : Int32} {Q : Int32 → MI → ML → Prop} (k1 : (∀ j, j < 4 → okS (bv p j)) → Q 1 I L) (k0 : ¬ (∀ j, j < 4 → okS (bv p j)) → Q 0 I L) : wp_X3_hasOnlySigns G Sh p I L Q := by
  have go : ∀ (d k : Nat), k + d = 4 → (∀ j, j < k → okS (bv p j)) → wp_X3_hasOnlySigns_3 G Sh p Q (d + 1) (iI (24 - 8 * (k : Int))) I L := by
    intro d
    induction d with
    | zero =>
      intro k h1 h2
      show wb_X3_hasOnlySigns_3 G Sh p Q _ _ I L
      unfold wb_X3_hasOnlySigns_3
      exact lt_br rfl iI_0 (by omega) (by omega) (fun _ => k1 (fun j hj => h2 j (by omega))) (fun q => absurd (by omega) q)
    | succ d ih =>
      intro k h1 h2
      show wb_X3_hasOnlySigns_3 G Sh p Q (wp_X3_hasOnlySigns_3 G Sh p Q (d + 1)) _ I L
      unfold wb_X3_hasOnlySigns_3
      refine lt_br rfl iI_0 (by omega) (by omega) (fun q => absurd q (by omega)) (fun _ => ?_)
      have hlt := bv_lt p k
      have next : okS (bv p k) → ∀ x6 : Int32, x6 = iI (24 - 8 * (k : Int)) + (-8 : Int32) → wp_X3_hasOnlySigns_3 G Sh p Q (d + 1) x6 I L := by
        intro hk x6 e6
        rw [e6, show (-8 : Int32) = iI (-8) by decide, iI_add, show (24 - 8 * (k : Int)) + -8 = 24 - 8 * ((k + 1 : Nat) : Int) by omega]
        refine ih (k + 1) (by omega) (fun j hj => ?_)
        rcases Nat.lt_or_ge j k with q | q
        · exact h2 j q
        · rw [show j = k by omega]; exact hk
      unfold wp_X3_byteOf
      rw [byteC p k (by omega)]
      refine eq_br rfl iI_0 (by omega) (by omega) (fun q => next (by unfold okS; omega)) (fun q => ?_)
      refine eq_br rfl iI_35 (by omega) (by omega) (fun q => next (by unfold okS; omega)) (fun q => ?_)
      refine eq_br rfl iI_38 (by omega) (by omega) (fun q => next (by unfold okS; omega)) (fun q => ?_)
      refine k_isIn rfl iI_97 iI_122 (by omega) (by omega) (by omega) (fun q => br_y rfl (k0 (fun q2 => ?_))) (fun q => br_n (by decide) (next (by unfold okS; omega)))
      have := q2 k (by omega)
      unfold okS at this
      omega
  exact ⟨5, go 4 0 (by omega) (fun j hj => absurd hj (by omega))⟩
theorem k_signsOf {p : Int32} {Q : Int32 → MI → ML → Prop} (hQ : Q (iI (cnB (bv p) 4)) I L) : wp_X3_signsOf G Sh p I L Q := by
  have go : ∀ (d k : Nat), k + d = 4 → wp_X3_signsOf_5 G Sh p Q (d + 1) (iI (cnB (bv p) k)) (iI (24 - 8 * (k : Int))) I L := by
    intro d
    induction d with
    | zero =>
      intro k h1
      show wb_X3_signsOf_5 G Sh p Q _ _ _ I L
      unfold wb_X3_signsOf_5
      rw [show k = 4 by omega]
      exact lt_br rfl iI_0 (by omega) (by omega) (fun _ => hQ) (fun q => absurd (by omega) q)
    | succ d ih =>
      intro k h1
      show wb_X3_signsOf_5 G Sh p Q (wp_X3_signsOf_5 G Sh p Q (d + 1)) _ _ I L
      unfold wb_X3_signsOf_5
      refine lt_br rfl iI_0 (by omega) (by omega) (fun q => absurd q (by omega)) (fun _ => ?_)
      have hlt := bv_lt p k
      have e8 : iI (24 - 8 * (k : Int)) + (-8 : Int32) = iI (24 - 8 * ((k + 1 : Nat) : Int)) := by
        rw [show (-8 : Int32) = iI (-8) by decide, iI_add]
        congr 1
        omega
      have ec : cnB (bv p) (k + 1) = if bv p k = 0 then cnB (bv p) k else cnB (bv p) k + 1 := rfl
      unfold wp_X3_byteOf
      rw [byteC p k (by omega), e8]
      refine eq_br rfl iI_0 (by omega) (by omega) (fun q x6 e6 => ?_) (fun q x7 e7 x8 e8 => ?_)
      · rw [e6]
        have := ih (k + 1) (by omega)
        rw [ec, if_pos (by omega)] at this
        exact this
      · rw [e8, e7, iI_1, iI_add]
        have := ih (k + 1) (by omega)
        rw [ec, if_neg (by omega)] at this
        exact this
  exact ⟨5, go 4 0 (by omega)⟩
/-- a sign more on the tape -/
def push (U : TS) (v : Nat) : TS := if v = 0 then U else upT (upT U 1 (U 2 0).toNat v) 2 0 (U 2 0 + 1)
def pushL (U : TS) (f : Nat → Nat) : Nat → TS
  | 0 => U
  | k + 1 => push (pushL U f k) (f k)
theorem push_fn {U : TS} {v g : Nat} (h1 : g ≠ 1) (h2 : g ≠ 2) : push U v g = U g := by
  unfold push
  split
  · rfl
  · exact (upT_fn h2).trans (upT_fn h1)
theorem pushL_fn {U : TS} {f : Nat → Nat} {g : Nat} (h1 : g ≠ 1) (h2 : g ≠ 2) : ∀ k, pushL U f k g = U g
  | 0 => rfl
  | k + 1 => (push_fn h1 h2).trans (pushL_fn h1 h2 k)
theorem pushL_len {U : TS} {f : Nat → Nat} : ∀ k, pushL U f k 2 0 = U 2 0 + cnB f k
  | 0 => by show U 2 0 = U 2 0 + (0 : Nat); omega
  | k + 1 => by
    show push (pushL U f k) (f k) 2 0 = U 2 0 + ((if f k = 0 then cnB f k else cnB f k + 1 : Nat) : Int)
    unfold push
    have := pushL_len (U := U) (f := f) k
    split
    · exact this
    · rw [upT_hit ⟨rfl, rfl⟩, this]
      omega
theorem push_C {U : TS} {t v : Nat} (hC : RC U t I L) (hv : v ≠ 0) (h0 : 0 ≤ U 2 0) : RC (push U v) t (mu (mu I (t + 2) (U 2 0).toNat (iI v)) (t + 1) 3 (iI (U 2 0 + 1))) L := by
  obtain ⟨cp, cg, cr, ci, cn⟩ := hC
  obtain ⟨p1, p2, p3, p4, p5, p6, p7⟩ := id cp
  have g : ∀ f, f ≠ 1 → f ≠ 2 → push U v f = U f := fun f h1 h2 => push_fn h1 h2
  have h2 : push U v 2 0 = U 2 0 + 1 := by unfold push; rw [if_neg hv]; exact upT_hit ⟨rfl, rfl⟩
  refine ⟨⟨?_, ?_, ?_, ?_, fun k hk => ?_, fun k hk => ?_, fun k hk => ?_⟩, cg.cong (fun f _ _ => g f (by omega) (by omega)) (fun a _ _ => ?_), cr.cong (fun f _ _ _ => g f (by omega) (by omega)) ?_ ?_ (fun a _ _ => ?_), ci.cong (fun f _ _ => g f (by omega) (by omega)) ?_ ?_ ?_, cn.cong (fun f _ _ => g f (by omega) (by omega)) (fun a _ _ => ?_) (fun _ _ _ => rfl)⟩
  · rw [h2, mu_hit ⟨rfl, rfl⟩]
  · rw [g 3 (by decide) (by decide), mu_miss (Or.inr (by decide)), mu_miss (Or.inl (by omega))]; exact p2
  · rw [g 4 (by decide) (by decide), mu_miss (Or.inr (by decide)), mu_miss (Or.inl (by omega))]; exact p3
  · rw [g 5 (by decide) (by decide), mu_miss (Or.inr (by decide)), mu_miss (Or.inl (by omega))]; exact p4
  · rw [h2] at hk
    rw [mu_miss (Or.inl (by omega))]
    have e1 : push U v 1 = fun j => if (1 : Nat) = 1 ∧ j = (U 2 0).toNat then (v : Int) else U 1 j := by
      unfold push
      rw [if_neg hv]
      exact upT_fn (by decide)
    rw [e1]
    by_cases q : k = (U 2 0).toNat
    · rw [mu_hit ⟨rfl, q⟩]
      simp [q]
    · rw [mu_miss (Or.inr q), p5 k (by omega)]
      simp [q]
  · rw [g 4 (by decide) (by decide)] at hk
    rw [g 6 (by decide) (by decide), mu_miss (Or.inl (by omega)), mu_miss (Or.inl (by omega))]
    exact p6 k hk
  · rw [g 4 (by decide) (by decide)] at hk
    rw [g 7 (by decide) (by decide), mu_miss (Or.inl (by omega)), mu_miss (Or.inl (by omega))]
    exact p7 k hk
  all_goals rw [mu_off (by omega), mu_off (by omega)]
theorem push_ok {U : TS} {v : Nat} (oP : OkP U) (hv : v ≠ 0) (hs : okS v) (h40 : U 2 0 < 40) : OkP (push U v) := by
  obtain ⟨p1, p2, p3, p4⟩ := oP
  have g : ∀ f, f ≠ 1 → f ≠ 2 → push U v f = U f := fun f h1 h2 => push_fn h1 h2
  have h2 : push U v 2 0 = U 2 0 + 1 := by unfold push; rw [if_neg hv]; exact upT_hit ⟨rfl, rfl⟩
  have e1 : push U v 1 = fun j => if (1 : Nat) = 1 ∧ j = (U 2 0).toNat then (v : Int) else U 1 j := by
    unfold push
    rw [if_neg hv]
    exact upT_fn (by decide)
  unfold OkP
  rw [h2, g 3 (by decide) (by decide), g 4 (by decide) (by decide), g 5 (by decide) (by decide), g 6 (by decide) (by decide), g 7 (by decide) (by decide)]
  refine ⟨by omega, p2, fun k hk => ?_, p4⟩
  rw [e1]
  by_cases q : k = (U 2 0).toNat
  · simp only [q, and_self, if_true]
    unfold okS at hs
    omega
  · simp only [q, and_false, if_false]
    exact p3 k (by omega)
theorem push_0 {U : TS} {v : Nat} (hv : v = 0) : push U v = U := if_pos hv
theorem pushL_ok {U : TS} {f : Nat → Nat} (oP : OkP U) : ∀ k, (∀ j, j < k → okS (f j)) → U 2 0 + cnB f k ≤ 40 → OkP (pushL U f k)
  | 0, _, _ => oP
  | k + 1, h, h40 => by
    have e : cnB f (k + 1) = if f k = 0 then cnB f k else cnB f k + 1 := rfl
    rw [e] at h40
    show OkP (push (pushL U f k) (f k))
    by_cases q : f k = 0
    · rw [push_0 q]
      rw [if_pos q] at h40
      exact pushL_ok oP k (fun j hj => h j (by omega)) h40
    · rw [if_neg q] at h40
      refine push_ok (pushL_ok oP k (fun j hj => h j (by omega)) (by omega)) q (h k (by omega)) ?_
      rw [pushL_len]
      omega
end OP9
