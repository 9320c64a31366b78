/-! THE RELATION: a table's state is a function of a field's number (the model's own order) and a place -/
abbrev TS : Type := Nat → Nat → Int
def upT (T : TS) (f k : Nat) (v : Int) : TS := fun g j => if g = f ∧ j = k then v else T g j
theorem upT_hit {T : TS} {f k g j : Nat} {v : Int} (h : g = f ∧ j = k) : upT T f k v g j = v := if_pos h
theorem upT_miss {T : TS} {f k g j : Nat} {v : Int} (h : g ≠ f ∨ j ≠ k) : upT T f k v g j = T g j := if_neg (by omega)
def wid (f : Nat) : Nat := if f = 1 then 40 else if f = 6 then 12 else if f = 7 then 12 else if f = 8 then 13 else if f = 9 then 13 else if f = 10 then 13 else if f = 11 then 13 else if f = 12 then 13 else if f = 15 then 20 else if f = 16 then 20 else if f = 18 then 480 else if f = 19 then 480 else if f = 20 then 480 else if f = 22 then 40 else if f = 26 then 24 else if f = 27 then 24 else if f = 28 then 24 else 1
def isJ (f : Nat) : Bool := f == 28 || f == 29 || f == 30 || f == 32
/-- row i of the model is T -/
def RM (T : TS) (m i : Nat) (I : MI) (L : ML) : Prop := ∀ f k : Nat, 1 ≤ f → f ≤ 32 → k < wid f → (isJ f = false → I (m + f) (wid f * i + k) = iI (T f k)) ∧ (isJ f = true → L (m + f) (wid f * i + k) = jI (T f k))
theorem RM.i1 {T : TS} {m i : Nat} {I : MI} {L : ML} (h : RM T m i I L) {k : Nat} (hk : k < 40) : I (m + 1) (40 * i + k) = iI (T 1 k) := (h 1 k (by decide) (by decide) hk).1 rfl
theorem RM.z1 {T : TS} {m i : Nat} {I : MI} {L : ML} (h : RM T m i I L) : I (m + 1) (40 * i) = iI (T 1 0) := h.i1 (k := 0) (by decide)
theorem RM.i2 {T : TS} {m i : Nat} {I : MI} {L : ML} (h : RM T m i I L) : I (m + 2) i = iI (T 2 0) := by
  have := (h 2 0 (by decide) (by decide) (by decide)).1 rfl
  rwa [show wid 2 = 1 from rfl, Nat.one_mul, Nat.add_zero] at this
theorem RM.i3 {T : TS} {m i : Nat} {I : MI} {L : ML} (h : RM T m i I L) : I (m + 3) i = iI (T 3 0) := by
  have := (h 3 0 (by decide) (by decide) (by decide)).1 rfl
  rwa [show wid 3 = 1 from rfl, Nat.one_mul, Nat.add_zero] at this
theorem RM.i4 {T : TS} {m i : Nat} {I : MI} {L : ML} (h : RM T m i I L) : I (m + 4) i = iI (T 4 0) := by
  have := (h 4 0 (by decide) (by decide) (by decide)).1 rfl
  rwa [show wid 4 = 1 from rfl, Nat.one_mul, Nat.add_zero] at this
theorem RM.i5 {T : TS} {m i : Nat} {I : MI} {L : ML} (h : RM T m i I L) : I (m + 5) i = iI (T 5 0) := by
  have := (h 5 0 (by decide) (by decide) (by decide)).1 rfl
  rwa [show wid 5 = 1 from rfl, Nat.one_mul, Nat.add_zero] at this
theorem RM.i6 {T : TS} {m i : Nat} {I : MI} {L : ML} (h : RM T m i I L) {k : Nat} (hk : k < 12) : I (m + 6) (12 * i + k) = iI (T 6 k) := (h 6 k (by decide) (by decide) hk).1 rfl
theorem RM.z6 {T : TS} {m i : Nat} {I : MI} {L : ML} (h : RM T m i I L) : I (m + 6) (12 * i) = iI (T 6 0) := h.i6 (k := 0) (by decide)
theorem RM.i7 {T : TS} {m i : Nat} {I : MI} {L : ML} (h : RM T m i I L) {k : Nat} (hk : k < 12) : I (m + 7) (12 * i + k) = iI (T 7 k) := (h 7 k (by decide) (by decide) hk).1 rfl
theorem RM.z7 {T : TS} {m i : Nat} {I : MI} {L : ML} (h : RM T m i I L) : I (m + 7) (12 * i) = iI (T 7 0) := h.i7 (k := 0) (by decide)
theorem RM.i8 {T : TS} {m i : Nat} {I : MI} {L : ML} (h : RM T m i I L) {k : Nat} (hk : k < 13) : I (m + 8) (13 * i + k) = iI (T 8 k) := (h 8 k (by decide) (by decide) hk).1 rfl
theorem RM.z8 {T : TS} {m i : Nat} {I : MI} {L : ML} (h : RM T m i I L) : I (m + 8) (13 * i) = iI (T 8 0) := h.i8 (k := 0) (by decide)
theorem RM.i9 {T : TS} {m i : Nat} {I : MI} {L : ML} (h : RM T m i I L) {k : Nat} (hk : k < 13) : I (m + 9) (13 * i + k) = iI (T 9 k) := (h 9 k (by decide) (by decide) hk).1 rfl
theorem RM.z9 {T : TS} {m i : Nat} {I : MI} {L : ML} (h : RM T m i I L) : I (m + 9) (13 * i) = iI (T 9 0) := h.i9 (k := 0) (by decide)
theorem RM.i10 {T : TS} {m i : Nat} {I : MI} {L : ML} (h : RM T m i I L) {k : Nat} (hk : k < 13) : I (m + 10) (13 * i + k) = iI (T 10 k) := (h 10 k (by decide) (by decide) hk).1 rfl
theorem RM.z10 {T : TS} {m i : Nat} {I : MI} {L : ML} (h : RM T m i I L) : I (m + 10) (13 * i) = iI (T 10 0) := h.i10 (k := 0) (by decide)
theorem RM.i11 {T : TS} {m i : Nat} {I : MI} {L : ML} (h : RM T m i I L) {k : Nat} (hk : k < 13) : I (m + 11) (13 * i + k) = iI (T 11 k) := (h 11 k (by decide) (by decide) hk).1 rfl
theorem RM.z11 {T : TS} {m i : Nat} {I : MI} {L : ML} (h : RM T m i I L) : I (m + 11) (13 * i) = iI (T 11 0) := h.i11 (k := 0) (by decide)
theorem RM.i12 {T : TS} {m i : Nat} {I : MI} {L : ML} (h : RM T m i I L) {k : Nat} (hk : k < 13) : I (m + 12) (13 * i + k) = iI (T 12 k) := (h 12 k (by decide) (by decide) hk).1 rfl
theorem RM.z12 {T : TS} {m i : Nat} {I : MI} {L : ML} (h : RM T m i I L) : I (m + 12) (13 * i) = iI (T 12 0) := h.i12 (k := 0) (by decide)
theorem RM.i13 {T : TS} {m i : Nat} {I : MI} {L : ML} (h : RM T m i I L) : I (m + 13) i = iI (T 13 0) := by
  have := (h 13 0 (by decide) (by decide) (by decide)).1 rfl
  rwa [show wid 13 = 1 from rfl, Nat.one_mul, Nat.add_zero] at this
theorem RM.i14 {T : TS} {m i : Nat} {I : MI} {L : ML} (h : RM T m i I L) : I (m + 14) i = iI (T 14 0) := by
  have := (h 14 0 (by decide) (by decide) (by decide)).1 rfl
  rwa [show wid 14 = 1 from rfl, Nat.one_mul, Nat.add_zero] at this
theorem RM.i15 {T : TS} {m i : Nat} {I : MI} {L : ML} (h : RM T m i I L) {k : Nat} (hk : k < 20) : I (m + 15) (20 * i + k) = iI (T 15 k) := (h 15 k (by decide) (by decide) hk).1 rfl
theorem RM.z15 {T : TS} {m i : Nat} {I : MI} {L : ML} (h : RM T m i I L) : I (m + 15) (20 * i) = iI (T 15 0) := h.i15 (k := 0) (by decide)
theorem RM.i16 {T : TS} {m i : Nat} {I : MI} {L : ML} (h : RM T m i I L) {k : Nat} (hk : k < 20) : I (m + 16) (20 * i + k) = iI (T 16 k) := (h 16 k (by decide) (by decide) hk).1 rfl
theorem RM.z16 {T : TS} {m i : Nat} {I : MI} {L : ML} (h : RM T m i I L) : I (m + 16) (20 * i) = iI (T 16 0) := h.i16 (k := 0) (by decide)
theorem RM.i17 {T : TS} {m i : Nat} {I : MI} {L : ML} (h : RM T m i I L) : I (m + 17) i = iI (T 17 0) := by
  have := (h 17 0 (by decide) (by decide) (by decide)).1 rfl
  rwa [show wid 17 = 1 from rfl, Nat.one_mul, Nat.add_zero] at this
theorem RM.i18 {T : TS} {m i : Nat} {I : MI} {L : ML} (h : RM T m i I L) {k : Nat} (hk : k < 480) : I (m + 18) (480 * i + k) = iI (T 18 k) := (h 18 k (by decide) (by decide) hk).1 rfl
theorem RM.z18 {T : TS} {m i : Nat} {I : MI} {L : ML} (h : RM T m i I L) : I (m + 18) (480 * i) = iI (T 18 0) := h.i18 (k := 0) (by decide)
theorem RM.i19 {T : TS} {m i : Nat} {I : MI} {L : ML} (h : RM T m i I L) {k : Nat} (hk : k < 480) : I (m + 19) (480 * i + k) = iI (T 19 k) := (h 19 k (by decide) (by decide) hk).1 rfl
theorem RM.z19 {T : TS} {m i : Nat} {I : MI} {L : ML} (h : RM T m i I L) : I (m + 19) (480 * i) = iI (T 19 0) := h.i19 (k := 0) (by decide)
theorem RM.i20 {T : TS} {m i : Nat} {I : MI} {L : ML} (h : RM T m i I L) {k : Nat} (hk : k < 480) : I (m + 20) (480 * i + k) = iI (T 20 k) := (h 20 k (by decide) (by decide) hk).1 rfl
theorem RM.z20 {T : TS} {m i : Nat} {I : MI} {L : ML} (h : RM T m i I L) : I (m + 20) (480 * i) = iI (T 20 0) := h.i20 (k := 0) (by decide)
theorem RM.i21 {T : TS} {m i : Nat} {I : MI} {L : ML} (h : RM T m i I L) : I (m + 21) i = iI (T 21 0) := by
  have := (h 21 0 (by decide) (by decide) (by decide)).1 rfl
  rwa [show wid 21 = 1 from rfl, Nat.one_mul, Nat.add_zero] at this
theorem RM.i22 {T : TS} {m i : Nat} {I : MI} {L : ML} (h : RM T m i I L) {k : Nat} (hk : k < 40) : I (m + 22) (40 * i + k) = iI (T 22 k) := (h 22 k (by decide) (by decide) hk).1 rfl
theorem RM.z22 {T : TS} {m i : Nat} {I : MI} {L : ML} (h : RM T m i I L) : I (m + 22) (40 * i) = iI (T 22 0) := h.i22 (k := 0) (by decide)
theorem RM.i23 {T : TS} {m i : Nat} {I : MI} {L : ML} (h : RM T m i I L) : I (m + 23) i = iI (T 23 0) := by
  have := (h 23 0 (by decide) (by decide) (by decide)).1 rfl
  rwa [show wid 23 = 1 from rfl, Nat.one_mul, Nat.add_zero] at this
theorem RM.i24 {T : TS} {m i : Nat} {I : MI} {L : ML} (h : RM T m i I L) : I (m + 24) i = iI (T 24 0) := by
  have := (h 24 0 (by decide) (by decide) (by decide)).1 rfl
  rwa [show wid 24 = 1 from rfl, Nat.one_mul, Nat.add_zero] at this
theorem RM.i25 {T : TS} {m i : Nat} {I : MI} {L : ML} (h : RM T m i I L) : I (m + 25) i = iI (T 25 0) := by
  have := (h 25 0 (by decide) (by decide) (by decide)).1 rfl
  rwa [show wid 25 = 1 from rfl, Nat.one_mul, Nat.add_zero] at this
theorem RM.i26 {T : TS} {m i : Nat} {I : MI} {L : ML} (h : RM T m i I L) {k : Nat} (hk : k < 24) : I (m + 26) (24 * i + k) = iI (T 26 k) := (h 26 k (by decide) (by decide) hk).1 rfl
theorem RM.z26 {T : TS} {m i : Nat} {I : MI} {L : ML} (h : RM T m i I L) : I (m + 26) (24 * i) = iI (T 26 0) := h.i26 (k := 0) (by decide)
theorem RM.i27 {T : TS} {m i : Nat} {I : MI} {L : ML} (h : RM T m i I L) {k : Nat} (hk : k < 24) : I (m + 27) (24 * i + k) = iI (T 27 k) := (h 27 k (by decide) (by decide) hk).1 rfl
theorem RM.z27 {T : TS} {m i : Nat} {I : MI} {L : ML} (h : RM T m i I L) : I (m + 27) (24 * i) = iI (T 27 0) := h.i27 (k := 0) (by decide)
theorem RM.i28 {T : TS} {m i : Nat} {I : MI} {L : ML} (h : RM T m i I L) {k : Nat} (hk : k < 24) : L (m + 28) (24 * i + k) = jI (T 28 k) := (h 28 k (by decide) (by decide) hk).2 rfl
theorem RM.z28 {T : TS} {m i : Nat} {I : MI} {L : ML} (h : RM T m i I L) : L (m + 28) (24 * i) = jI (T 28 0) := h.i28 (k := 0) (by decide)
theorem RM.i29 {T : TS} {m i : Nat} {I : MI} {L : ML} (h : RM T m i I L) : L (m + 29) i = jI (T 29 0) := by
  have := (h 29 0 (by decide) (by decide) (by decide)).2 rfl
  rwa [show wid 29 = 1 from rfl, Nat.one_mul, Nat.add_zero] at this
theorem RM.i30 {T : TS} {m i : Nat} {I : MI} {L : ML} (h : RM T m i I L) : L (m + 30) i = jI (T 30 0) := by
  have := (h 30 0 (by decide) (by decide) (by decide)).2 rfl
  rwa [show wid 30 = 1 from rfl, Nat.one_mul, Nat.add_zero] at this
theorem RM.i31 {T : TS} {m i : Nat} {I : MI} {L : ML} (h : RM T m i I L) : I (m + 31) i = iI (T 31 0) := by
  have := (h 31 0 (by decide) (by decide) (by decide)).1 rfl
  rwa [show wid 31 = 1 from rfl, Nat.one_mul, Nat.add_zero] at this
theorem RM.i32 {T : TS} {m i : Nat} {I : MI} {L : ML} (h : RM T m i I L) : L (m + 32) i = jI (T 32 0) := by
  have := (h 32 0 (by decide) (by decide) (by decide)).2 rfl
  rwa [show wid 32 = 1 from rfl, Nat.one_mul, Nat.add_zero] at this
theorem RM.keep {T : TS} {m i : Nat} {I I1 : MI} {L L1 : ML} (h : RM T m i I L) (hI : ∀ f, 1 ≤ f → f ≤ 32 → I1 (m + f) = I (m + f)) (hL : ∀ f, 1 ≤ f → f ≤ 32 → L1 (m + f) = L (m + f)) : RM T m i I1 L1 := by
  intro f k h1 h2 h3
  rw [hI f h1 h2, hL f h1 h2]
  exact h f k h1 h2 h3
theorem RM.out {T : TS} {m i a k : Nat} {v : Int32} {I : MI} {L : ML} (h : RM T m i I L) (ha : a < m + 1 ∨ m + 33 ≤ a) : RM T m i (mu I a k v) L := h.keep (fun f h1 h2 => mu_off (by omega)) (fun _ _ _ => rfl)
theorem RM.outL {T : TS} {m i a k : Nat} {v : Int64} {I : MI} {L : ML} (h : RM T m i I L) (ha : a < m + 1 ∨ m + 33 ≤ a) : RM T m i I (mul L a k v) := h.keep (fun _ _ _ => rfl) (fun f h1 h2 => mul_off (by omega))
theorem RM.set {T : TS} {m i : Nat} {I : MI} {L : ML} (h : RM T m i I L) (f k j : Nat) (v : Int) {x : Int32} (hf : isJ f = false) (hk : k < wid f) (hj : j = wid f * i + k) (hx : x = iI v) : RM (upT T f k v) m i (mu I (m + f) j x) L := by
  intro g q h1 h2 h3
  subst hj
  subst hx
  refine ⟨fun hg => ?_, fun hg => ?_⟩
  · rcases Nat.decEq g f with e | e
    · rw [mu_miss (Or.inl (by omega)), upT_miss (Or.inl e)]
      exact (h g q h1 h2 h3).1 hg
    · subst e
      rcases Nat.decEq q k with e | e
      · rw [mu_miss (Or.inr (by omega)), upT_miss (Or.inr e)]
        exact (h g q h1 h2 h3).1 hg
      · subst e
        rw [mu_hit ⟨rfl, rfl⟩, upT_hit ⟨rfl, rfl⟩]
  · rw [upT_miss (Or.inl (by intro e; rw [e, hf] at hg; cases hg))]
    exact (h g q h1 h2 h3).2 hg
theorem RM.setL {T : TS} {m i : Nat} {I : MI} {L : ML} (h : RM T m i I L) (f k j : Nat) (v : Int) {x : Int64} (hf : isJ f = true) (hk : k < wid f) (hj : j = wid f * i + k) (hx : x = jI v) : RM (upT T f k v) m i I (mul L (m + f) j x) := by
  intro g q h1 h2 h3
  subst hj
  subst hx
  refine ⟨fun hg => ?_, fun hg => ?_⟩
  · rw [upT_miss (Or.inl (by intro e; rw [e, hf] at hg; cases hg))]
    exact (h g q h1 h2 h3).1 hg
  · rcases Nat.decEq g f with e | e
    · rw [mul_miss (Or.inl (by omega)), upT_miss (Or.inl e)]
      exact (h g q h1 h2 h3).2 hg
    · subst e
      rcases Nat.decEq q k with e | e
      · rw [mul_miss (Or.inr (by omega)), upT_miss (Or.inr e)]
        exact (h g q h1 h2 h3).2 hg
      · subst e
        rw [mul_hit ⟨rfl, rfl⟩, upT_hit ⟨rfl, rfl⟩]
theorem slice_ne {w i i0 k q : Nat} (ne : i ≠ i0) (hk : k < w) (hq : q < w) : w * i + q ≠ w * i0 + k := by
  intro e
  have h1 : (w * i + q) / w = i := by rw [Nat.mul_add_div (by omega), Nat.div_eq_of_lt hq, Nat.add_zero]
  have h2 : (w * i0 + k) / w = i0 := by rw [Nat.mul_add_div (by omega), Nat.div_eq_of_lt hk, Nat.add_zero]
  rw [e, h2] at h1
  exact ne h1.symm
theorem RM.else {T : TS} {m i i0 : Nat} {I : MI} {L : ML} (h : RM T m i I L) (ne : i ≠ i0) (f k j : Nat) {x : Int32} (hk : k < wid f) (hj : j = wid f * i0 + k) : RM T m i (mu I (m + f) j x) L := by
  intro g q h1 h2 h3
  refine ⟨fun hg => ?_, (h g q h1 h2 h3).2⟩
  subst hj
  rcases Nat.decEq g f with e | e
  · rw [mu_miss (Or.inl (by omega))]
    exact (h g q h1 h2 h3).1 hg
  · subst e
    rw [mu_miss (Or.inr (slice_ne ne hk h3))]
    exact (h g q h1 h2 h3).1 hg
theorem RM.elseL {T : TS} {m i i0 : Nat} {I : MI} {L : ML} (h : RM T m i I L) (ne : i ≠ i0) (f k j : Nat) {x : Int64} (hk : k < wid f) (hj : j = wid f * i0 + k) : RM T m i I (mul L (m + f) j x) := by
  intro g q h1 h2 h3
  refine ⟨(h g q h1 h2 h3).1, fun hg => ?_⟩
  subst hj
  rcases Nat.decEq g f with e | e
  · rw [mul_miss (Or.inl (by omega))]
    exact (h g q h1 h2 h3).2 hg
  · subst e
    rw [mul_miss (Or.inr (slice_ne ne hk h3))]
    exact (h g q h1 h2 h3).2 hg
/-- the class's side, by parts: preamble, glues, rows, items, last run -/
def RCp (T : TS) (t : Nat) (I : MI) : Prop := I (t + 1) 3 = iI (T 2 0) ∧ I (t + 1) 4 = iI (T 3 0) ∧ I (t + 1) 5 = iI (T 4 0) ∧ I (t + 1) 6 = iI (T 5 0) ∧ (∀ k : Nat, (k : Int) < T 2 0 → I (t + 2) k = iI (T 1 k)) ∧ (∀ k : Nat, (k : Int) < T 4 0 → I (t + 3) k = iI (T 6 k)) ∧ ∀ k : Nat, (k : Int) < T 4 0 → I (t + 4) k = iI (T 7 k)
def RCg (T : TS) (t : Nat) (I : MI) : Prop := ∀ k : Nat, k < 13 → I (t + 41 + k) 0 = iI (T 8 k) ∧ I (t + 41 + k) 1 = iI (T 9 k) ∧ I (t + 41 + k) 2 = iI (T 10 k) ∧ I (t + 41 + k) 3 = iI (T 11 k) ∧ I (t + 41 + k) 4 = iI (T 12 k)
/-- the column behind row r -/
def enT (T : TS) (r : Nat) : Int := if T 16 r = 0 then 0 else T 19 (T 15 r + T 16 r - 1).toNat + T 20 (T 15 r + T 16 r - 1).toNat
def clT (T : TS) : Int := if T 5 0 < 0 then T 4 0 else 24
def RCr (T : TS) (t : Nat) (I : MI) : Prop := I t 5 = iI (T 13 0) ∧ I t 8 = iI (T 14 0) ∧ (∀ r : Nat, (r : Int) < T 13 0 → r < 20 → I (t + 54 + 4 * r) 3 = iI (T 16 r) ∧ I (t + 54 + 4 * r) 4 = iI (enT T r) ∧ ∀ i : Nat, (i : Int) < T 16 r → I (t + 54 + 4 * r + 1) i = iI (T 18 ((T 15 r).toNat + i)) ∧ I (t + 54 + 4 * r + 2) i = iI (T 19 ((T 15 r).toNat + i)) ∧ I (t + 54 + 4 * r + 3) i = iI (T 20 ((T 15 r).toNat + i))) ∧ ∀ r : Nat, T 13 0 ≤ r → r < 20 → I (t + 54 + 4 * r) 3 = iI 0 ∧ I (t + 54 + 4 * r) 4 = iI 0
def RCi (T : TS) (t : Nat) (I : MI) : Prop := I t 7 = iI (T 21 0) ∧ I t 6 = iI (T 23 0) ∧ ∀ k : Nat, (k : Int) < T 21 0 → I (t + 7) k = iI (T 22 k)
def RCn (T : TS) (t : Nat) (I : MI) (L : ML) : Prop := I (t + 8) 7 = iI (T 24 0) ∧ I (t + 8) 8 = iI (T 25 0) ∧ (∀ c : Nat, (c : Int) < T 25 0 → I (t + 8 + 1) c = iI (T 26 c) ∧ I (t + 8 + 2) c = iI (T 27 c) ∧ L (t + 8 + 3) c = jI (T 28 c)) ∧ L (t + 8) 9 = jI (T 29 0) ∧ L (t + 8) 10 = jI (T 30 0 - T 29 0) ∧ I (t + 8) 11 = iI (T 31 0) ∧ L (t + 8) 12 = jI (T 32 0)
def RC (T : TS) (t : Nat) (I : MI) (L : ML) : Prop := RCp T t I ∧ RCg T t I ∧ RCr T t I ∧ RCi T t I ∧ RCn T t I L
/-- what is true of every table's numbers -/
def OkP (T : TS) : Prop := (0 ≤ T 2 0 ∧ T 2 0 ≤ 40) ∧ (T 3 0 = 0 ∧ T 4 0 = 0 ∧ T 5 0 = -1 ∨ T 3 0 = 1 ∧ 1 ≤ T 4 0 ∧ T 4 0 ≤ 12 ∧ -1 ≤ T 5 0 ∧ T 5 0 < T 4 0) ∧ (∀ k : Nat, (k : Int) < T 2 0 → T 1 k = 35 ∨ T 1 k = 38 ∨ 97 ≤ T 1 k ∧ T 1 k ≤ 122) ∧ ∀ k : Nat, (k : Int) < T 4 0 → 0 ≤ T 6 k ∧ T 6 k ≤ 1040 ∧ 0 ≤ T 7 k ∧ T 7 k ≤ 1040
def OkG (T : TS) : Prop := ∀ k : Nat, k < 13 → -10000 ≤ T 8 k ∧ T 8 k ≤ 10000 ∧ 0 ≤ T 9 k ∧ T 9 k ≤ 10000 ∧ 0 ≤ T 10 k ∧ T 10 k ≤ 3 ∧ 0 ≤ T 11 k ∧ T 11 k ≤ 10000 ∧ 0 ≤ T 12 k ∧ T 12 k ≤ 3
def OkR (T : TS) : Prop := (0 ≤ T 13 0 ∧ T 13 0 ≤ 20) ∧ (T 14 0 = 0 ∨ T 14 0 = 1 ∧ 1 ≤ T 13 0) ∧ (T 3 0 = 0 → T 13 0 = 0) ∧ (T 13 0 = 0 → T 17 0 = 0) ∧ (0 < T 13 0 → T 15 0 = 0) ∧ ∀ r : Nat, (r : Int) < T 13 0 → 0 ≤ T 15 r ∧ T 15 r ≤ 24 * r ∧ 0 ≤ T 16 r ∧ T 16 r ≤ enT T r ∧ enT T r ≤ clT T ∧ (if (r : Int) + 1 < T 13 0 then T 15 (r + 1) else T 17 0) = T 15 r + T 16 r ∧ ∀ i : Nat, (i : Int) < T 16 r → 0 ≤ T 18 ((T 15 r).toNat + i) ∧ T 18 ((T 15 r).toNat + i) ≤ 102080 ∧ 0 ≤ T 19 ((T 15 r).toNat + i) ∧ 1 ≤ T 20 ((T 15 r).toNat + i) ∧ T 20 ((T 15 r).toNat + i) ≤ 8 ∧ T 19 ((T 15 r).toNat + i) + T 20 ((T 15 r).toNat + i) ≤ enT T r
def OkI (T : TS) : Prop := 0 ≤ T 23 0 ∧ T 23 0 ≤ 20 ∧ T 21 0 = T 13 0 + T 23 0
def OkN (K : Nat) (T : TS) : Prop := (0 ≤ T 24 0 ∧ T 24 0 ≤ K) ∧ (T 24 0 = 0 → T 25 0 = 0) ∧ (0 ≤ T 25 0 ∧ T 25 0 ≤ 24) ∧ (∀ c : Nat, (c : Int) < T 25 0 → 0 ≤ T 26 c ∧ T 26 c ≤ 400000 ∧ (T 27 c = 0 ∨ T 27 c = 1)) ∧ (-100000000 ≤ T 29 0 ∧ T 29 0 ≤ 100000000) ∧ -100000000 ≤ T 30 0 ∧ T 30 0 ≤ 100000000
def Ok (K : Nat) (T : TS) : Prop := OkP T ∧ OkG T ∧ OkR T ∧ OkI T ∧ OkN K T
theorem Ok.next {K : Nat} {T : TS} (h : Ok K T) : Ok (K + 1) T := ⟨h.1, h.2.1, h.2.2.1, h.2.2.2.1, ⟨h.2.2.2.2.1.1, by have := h.2.2.2.2.1.2; omega⟩, h.2.2.2.2.2⟩
/-- the whole: n tables in the class's blocks and in the model's rows -/
def Geo (x m o n : Nat) (tb : Nat → Nat) : Prop := x + 2 ≤ m ∧ m + 35 ≤ o ∧ n ≤ 6 ∧ (∀ i, i < n → o < tb i) ∧ ∀ i j, i < j → j < n → tb i + 134 ≤ tb j
def Inv (K : Nat) (G : GX) (x m o : Nat) (Sh : SH) (F : Nat → Option Nat) (I : MI) (L : ML) (n : Nat) (tb : Nat → Nat) (T : Nat → TS) : Prop := Geo x m o n tb ∧ (isX G Sh x F ∧ isModel G Sh m ∧ Sh o = some (sJ G 1)) ∧ (∀ i, i < n → F i = some (tb i) ∧ isTable G Sh (tb i)) ∧ (I x 1 = iI n ∧ I m 1 = iI n) ∧ (∀ i, i < n → RC (T i) (tb i) I L ∧ RM (T i) m i I L ∧ Ok K (T i)) ∧ ∀ i, n ≤ i → i < 6 → RM (fun _ _ => 0) m i I L
def Rel (K : Nat) (G : GX) (x m o : Nat) (Sh : SH) (F : Nat → Option Nat) (I : MI) (L : ML) : Prop := ∃ (n : Nat) (tb : Nat → Nat) (T : Nat → TS), Inv K G x m o Sh F I L n tb T
theorem RC.keep {T : TS} {t : Nat} {I I1 : MI} {L L1 : ML} (h : RC T t I L) (hI : ∀ a, t ≤ a → a < t + 134 → I1 a = I a) (hL : ∀ a, t ≤ a → a < t + 134 → L1 a = L a) : RC T t I1 L1 := by
  obtain ⟨⟨p1, p2, p3, p4, p5, p6, p7⟩, hg, ⟨r1, r2, r3, r4⟩, ⟨i1, i2, i3⟩, n1, n2, n3, n4, n5, n6, n7⟩ := h
  refine ⟨⟨?_, ?_, ?_, ?_, ?_, ?_, ?_⟩, ?_, ⟨?_, ?_, ?_, ?_⟩, ⟨?_, ?_, ?_⟩, ?_, ?_, ?_, ?_, ?_, ?_, ?_⟩
  · rw [hI _ (by omega) (by omega)]; exact p1
  · rw [hI _ (by omega) (by omega)]; exact p2
  · rw [hI _ (by omega) (by omega)]; exact p3
  · rw [hI _ (by omega) (by omega)]; exact p4
  · rw [hI _ (by omega) (by omega)]; exact p5
  · rw [hI _ (by omega) (by omega)]; exact p6
  · rw [hI _ (by omega) (by omega)]; exact p7
  · intro k hk
    rw [hI _ (by omega) (by omega)]
    exact hg k hk
  · rw [hI _ (by omega) (by omega)]; exact r1
  · rw [hI _ (by omega) (by omega)]; exact r2
  · intro r hr
    intro h20
    rw [hI _ (by omega) (by omega), hI _ (by omega) (by omega), hI _ (by omega) (by omega), hI _ (by omega) (by omega)]
    exact r3 r hr h20
  · intro r hr h20
    rw [hI _ (by omega) (by omega)]
    exact r4 r hr h20
  · rw [hI _ (by omega) (by omega)]; exact i1
  · rw [hI _ (by omega) (by omega)]; exact i2
  · rw [hI _ (by omega) (by omega)]; exact i3
  · rw [hI _ (by omega) (by omega)]; exact n1
  · rw [hI _ (by omega) (by omega)]; exact n2
  · rw [hI _ (by omega) (by omega), hI _ (by omega) (by omega), hL _ (by omega) (by omega)]
    exact n3
  · rw [hL _ (by omega) (by omega)]; exact n4
  · rw [hL _ (by omega) (by omega)]; exact n5
  · rw [hI _ (by omega) (by omega)]; exact n6
  · rw [hL _ (by omega) (by omega)]; exact n7
