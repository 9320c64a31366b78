/-! THE PURE PART: numbers -/
def iI (z : Int) : Int32 := Int32.ofInt z
def jI (z : Int) : Int64 := Int64.ofInt z
theorem iI_of (q : Int32) : ∃ z : Int, (-2147483648 ≤ z ∧ z < 2147483648) ∧ q = iI z := ⟨q.toInt, fb_rng q, (fb_asI q).symm⟩
theorem iI_toInt {z : Int} (h : -2147483648 ≤ z ∧ z < 2147483648) : (iI z).toInt = z := fb_ofI h.1 h.2
theorem jI_toInt {z : Int} (h : -9223372036854775808 ≤ z ∧ z < 9223372036854775808) : (jI z).toInt = z := by
  unfold jI
  rw [Int64.toInt_ofInt]
  exact fb_bmodL h.1 h.2
theorem iI_add (a b : Int) : iI a + iI b = iI (a + b) := (Int32.ofInt_add a b).symm
theorem iI_sub (a b : Int) : iI a - iI b = iI (a - b) := (Int32.ofInt_sub a b).symm
theorem iI_mul (a b : Int) : iI a * iI b = iI (a * b) := (Int32.ofInt_mul a b).symm
theorem iI_neg (a : Int) : -iI a = iI (-a) := (Int32.ofInt_neg a).symm
theorem jI_add (a b : Int) : jI a + jI b = jI (a + b) := (Int64.ofInt_add a b).symm
theorem jI_sub (a b : Int) : jI a - jI b = jI (a - b) := (Int64.ofInt_sub a b).symm
theorem jI_mul (a b : Int) : jI a * jI b = jI (a * b) := (Int64.ofInt_mul a b).symm
theorem jI_neg (a : Int) : -jI a = jI (-a) := (Int64.ofInt_neg a).symm
theorem iI_lt {a b : Int} (ha : -2147483648 ≤ a ∧ a < 2147483648) (hb : -2147483648 ≤ b ∧ b < 2147483648) : iI a < iI b ↔ a < b := by rw [fa_lt, iI_toInt ha, iI_toInt hb]
theorem iI_le {a b : Int} (ha : -2147483648 ≤ a ∧ a < 2147483648) (hb : -2147483648 ≤ b ∧ b < 2147483648) : iI a ≤ iI b ↔ a ≤ b := by rw [fa_le, iI_toInt ha, iI_toInt hb]
theorem iI_eq {a b : Int} (ha : -2147483648 ≤ a ∧ a < 2147483648) (hb : -2147483648 ≤ b ∧ b < 2147483648) : iI a = iI b ↔ a = b := by rw [fa_eq, iI_toInt ha, iI_toInt hb]
theorem jI_lt {a b : Int} (ha : -9223372036854775808 ≤ a ∧ a < 9223372036854775808) (hb : -9223372036854775808 ≤ b ∧ b < 9223372036854775808) : jI a < jI b ↔ a < b := by rw [fa_lt64, jI_toInt ha, jI_toInt hb]
theorem jI_le {a b : Int} (ha : -9223372036854775808 ≤ a ∧ a < 9223372036854775808) (hb : -9223372036854775808 ≤ b ∧ b < 9223372036854775808) : jI a ≤ jI b ↔ a ≤ b := by rw [fa_le64, jI_toInt ha, jI_toInt hb]
theorem jI_eq {a b : Int} (ha : -9223372036854775808 ≤ a ∧ a < 9223372036854775808) (hb : -9223372036854775808 ≤ b ∧ b < 9223372036854775808) : jI a = jI b ↔ a = b := by rw [fa_eq64, jI_toInt ha, jI_toInt hb]
theorem iI_nat {z : Int} (h : -2147483648 ≤ z ∧ z < 2147483648) : (iI z).toNatClampNeg = z.toNat := by
  show (iI z).toInt.toNat = z.toNat
  rw [iI_toInt h]
theorem iI_in {z : Int} {n : Nat} (h : -2147483648 ≤ z ∧ z < 2147483648) : vp_in (iI z) n ↔ 0 ≤ z ∧ z < n := by
  unfold vp_in
  rw [iI_nat h, fa_lt, iI_toInt h]
  have : (0 : Int32).toInt = 0 := rfl
  rw [this]
  omega
theorem iI_long {z : Int} (h : -2147483648 ≤ z ∧ z < 2147483648) : Int32.toInt64 (iI z) = jI z := by
  rw [← Int64.toInt_inj, Int32.toInt_toInt64, iI_toInt h, jI_toInt (by omega)]
theorem jI_int {z : Int} (h : -2147483648 ≤ z ∧ z < 2147483648) : Int64.toInt32 (jI z) = iI z := by
  rw [← iI_long h, Int32.toInt32_toInt64]
theorem iI_div {a b : Int} (ha : 0 ≤ a ∧ a < 2147483648) (hb : 0 < b ∧ b < 2147483648) : iI a / iI b = iI (a / b) := by
  rw [← Int32.toInt_inj, Int32.toInt_div, iI_toInt (by omega), iI_toInt (by omega), Int.tdiv_eq_ediv_of_nonneg ha.1]
  have h1 : 0 ≤ a / b := Int.ediv_nonneg ha.1 (by omega)
  have h2 : a / b ≤ a := Int.ediv_le_self _ ha.1
  rw [iI_toInt (by omega)]
  exact fb_bmod (by omega) (by omega)
theorem iI_0 : (0 : Int32) = iI 0 := rfl
theorem iI_1 : (1 : Int32) = iI 1 := rfl
theorem iI_2 : (2 : Int32) = iI 2 := rfl
theorem iI_3 : (3 : Int32) = iI 3 := rfl
theorem iI_4 : (4 : Int32) = iI 4 := rfl
theorem iI_5 : (5 : Int32) = iI 5 := rfl
theorem iI_6 : (6 : Int32) = iI 6 := rfl
theorem iI_7 : (7 : Int32) = iI 7 := rfl
theorem iI_8 : (8 : Int32) = iI 8 := rfl
theorem iI_9 : (9 : Int32) = iI 9 := rfl
theorem iI_10 : (10 : Int32) = iI 10 := rfl
theorem iI_11 : (11 : Int32) = iI 11 := rfl
theorem iI_12 : (12 : Int32) = iI 12 := rfl
theorem iI_13 : (13 : Int32) = iI 13 := rfl
theorem iI_20 : (20 : Int32) = iI 20 := rfl
theorem iI_24 : (24 : Int32) = iI 24 := rfl
theorem iI_35 : (35 : Int32) = iI 35 := rfl
theorem iI_38 : (38 : Int32) = iI 38 := rfl
theorem iI_40 : (40 : Int32) = iI 40 := rfl
theorem iI_97 : (97 : Int32) = iI 97 := rfl
theorem iI_122 : (122 : Int32) = iI 122 := rfl
theorem iI_480 : (480 : Int32) = iI 480 := rfl
theorem iI_10000 : (10000 : Int32) = iI 10000 := rfl
theorem iI_100000 : (100000 : Int32) = iI 100000 := rfl
theorem iI_1000000 : (1000000 : Int32) = iI 1000000 := rfl
theorem jI_0 : (0 : Int64) = jI 0 := rfl
theorem jI_1 : (1 : Int64) = jI 1 := rfl
theorem jI_2 : (2 : Int64) = jI 2 := rfl
theorem jI_3 : (3 : Int64) = jI 3 := rfl
theorem jI_8 : (8 : Int64) = jI 8 := rfl
theorem jI_10000 : (10000 : Int64) = jI 10000 := rfl
theorem jI_100000 : (100000 : Int64) = jI 100000 := rfl
theorem jI_1000000 : (1000000 : Int64) = jI 1000000 := rfl
theorem tn_cast (n : Nat) : Int.toNat (n : Int) = n := rfl
theorem tn_add {a b : Int} (ha : 0 ≤ a ∧ 0 ≤ b) : Int.toNat (a + b) = a.toNat + b.toNat := by omega
theorem tn_sub {a b : Int} (ha : 0 ≤ b) : Int.toNat (a - b) = a.toNat - b.toNat := by omega
theorem tn_mul {a b : Int} (ha : 0 ≤ a ∧ 0 ≤ b) : Int.toNat (a * b) = a.toNat * b.toNat := Int.toNat_mul ha.1 ha.2
theorem tn_lit (n : Nat) : Int.toNat (no_index (OfNat.ofNat n) : Int) = OfNat.ofNat n := rfl
theorem mu_eq (I : MI) (a k : Nat) (v : Int32) (j : Nat) : mu I a k v a j = if j = k then v else I a j := by rw [mu_at]; rfl
theorem mul_eq (L : ML) (a k : Nat) (v : Int64) (j : Nat) : mul L a k v a j = if j = k then v else L a j := by rw [mul_at]; rfl
theorem mu_ne {I : MI} {a k b : Nat} {v : Int32} (h : b ≠ a) (j : Nat) : mu I a k v b j = I b j := by rw [mu_off h]
theorem mul_ne {L : ML} {a k b : Nat} {v : Int64} (h : b ≠ a) (j : Nat) : mul L a k v b j = L b j := by rw [mul_off h]
theorem mu_hit {I : MI} {a k b j : Nat} {v : Int32} (h : b = a ∧ j = k) : mu I a k v b j = v := by rw [h.1, mu_eq, if_pos h.2]
theorem mu_miss {I : MI} {a k b j : Nat} {v : Int32} (h : b ≠ a ∨ j ≠ k) : mu I a k v b j = I b j := by
  rcases Decidable.em (b = a) with e | e
  · subst e
    rw [mu_eq, if_neg (by rcases h with h | h <;> omega)]
  · exact mu_ne e j
theorem mul_hit {L : ML} {a k b j : Nat} {v : Int64} (h : b = a ∧ j = k) : mul L a k v b j = v := by rw [h.1, mul_eq, if_pos h.2]
theorem mul_miss {L : ML} {a k b j : Nat} {v : Int64} (h : b ≠ a ∨ j ≠ k) : mul L a k v b j = L b j := by
  rcases Decidable.em (b = a) with e | e
  · subst e
    rw [mul_eq, if_neg (by rcases h with h | h <;> omega)]
  · exact mul_ne e j
theorem lg0_lt (x y : Int64) : (lg_cmp x y < iI 0) ↔ x < y := lg_cmp_lt x y
theorem lg0_le (x y : Int64) : (lg_cmp x y ≤ iI 0) ↔ x ≤ y := lg_cmp_le x y
theorem lg0_gt (x y : Int64) : (iI 0 < lg_cmp x y) ↔ y < x := lg_cmp_gt x y
theorem lg0_ge (x y : Int64) : (iI 0 ≤ lg_cmp x y) ↔ y ≤ x := lg_cmp_ge x y
theorem lg0_eq (x y : Int64) : (lg_cmp x y = iI 0) ↔ x = y := lg_cmp_eq x y
theorem br_y {c A B : Prop} (h : c) (k : A) : (c → A) ∧ (¬ c → B) := ⟨fun _ => k, fun n => absurd h n⟩
theorem br_n {c A B : Prop} (h : ¬ c) (k : B) : (c → A) ∧ (¬ c → B) := ⟨fun n => absurd n h, fun _ => k⟩
theorem nz_try (a c : Int) (h : 0 ≤ a ∧ a < 6) (h2 : 0 ≤ c ∧ c < 24) (P : Nat → Prop) (hp : P (24 * a.toNat + c.toNat)) : vp_in ((24 : Int32) * iI a + iI c) 144 ∧ P ((24 : Int32) * iI a + iI c).toNatClampNeg ∧ ¬ (iI a < 0) ∧ (iI a - 1 < iI c - (-1) ↔ a < c + 2) := by
  simp (disch := omega) only [iI_0, iI_1, iI_2, iI_3, iI_4, iI_5, iI_6, iI_7, iI_8, iI_9, iI_10, iI_11, iI_12, iI_13, iI_20, iI_24, iI_35, iI_38, iI_40, iI_97, iI_122, iI_480, iI_10000, iI_100000, iI_1000000, jI_0, jI_1, jI_2, jI_3, jI_8, jI_10000, jI_100000, jI_1000000, iI_add, iI_sub, iI_mul, iI_neg, jI_add, jI_sub, jI_mul, jI_neg, iI_long, iI_in, iI_nat, iI_lt, iI_le, iI_eq, jI_lt, jI_le, jI_eq, lg0_lt, lg0_le, lg0_gt, lg0_ge, lg0_eq, true_and, tn_cast, tn_add, tn_sub, tn_mul, tn_lit]
  refine ⟨⟨by omega, by omega⟩, hp, by omega, by omega⟩
