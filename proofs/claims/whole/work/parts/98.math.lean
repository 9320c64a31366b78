/-! run: the numbers -/
section RN
variable {U : TS}
def mxB (p : Nat → Bool) (v : Nat → Int) : Nat → Int
  | 0 => -1
  | n + 1 => if p n = true then (if mxB p v n < v n then v n else mxB p v n) else mxB p v n
theorem mxB_succ (p : Nat → Bool) (v : Nat → Int) (n : Nat) : mxB p v (n + 1) = if p n = true then (if mxB p v n < v n then v n else mxB p v n) else mxB p v n := rfl
theorem mxB_ge (p : Nat → Bool) (v : Nat → Int) : ∀ n, -1 ≤ mxB p v n
  | 0 => Int.le_refl _
  | n + 1 => by
    have := mxB_ge p v n
    rw [mxB_succ]
    split
    · split <;> omega
    · exact this
theorem mxB_le {p : Nat → Bool} {v : Nat → Int} {B : Int} (hB : -1 ≤ B) : ∀ n, (∀ k, k < n → v k ≤ B) → mxB p v n ≤ B
  | 0, _ => hB
  | n + 1, h => by
    have := mxB_le (p := p) hB n (fun k hk => h k (by omega))
    have := h n (by omega)
    rw [mxB_succ]
    split
    · split <;> omega
    · assumption
theorem mxB_cong {p q : Nat → Bool} {v w : Nat → Int} : ∀ {n}, (∀ k, k < n → p k = q k ∧ (p k = true → v k = w k)) → mxB p v n = mxB q w n
  | 0, _ => rfl
  | n + 1, h => by
    have e := h n (by omega)
    rw [mxB_succ, mxB_succ, mxB_cong (n := n) (fun k hk => h k (by omega)), ← e.1]
    by_cases c : p n = true
    · rw [if_pos c, if_pos c, e.2 c]
    · rw [if_neg c, if_neg c]
theorem mxB_no {p : Nat → Bool} {v : Nat → Int} : ∀ {n}, (∀ k, k < n → p k = false) → mxB p v n = -1
  | 0, _ => rfl
  | n + 1, h => by
    rw [mxB_succ, if_neg (by rw [h n (by omega)]; decide)]
    exact mxB_no (fun k hk => h k (by omega))
/-- the column behind the last entry, and what entry k still needs, and from where, before column c -/
def lsT (U : TS) (k : Nat) : Int := U 19 k + U 20 k - 1
def at1 (fr : Nat → Int) (ls : Nat → Int) (c s : Int) (k : Nat) : Bool := decide (fr k = c) && decide (ls k = c + s - 1)
theorem at1_iff {fr ls : Nat → Int} {c s : Int} {k : Nat} : at1 fr ls c s k = true ↔ fr k = c ∧ ls k = c + s - 1 := by
  unfold at1
  rw [Bool.and_eq_true, decide_eq_true_eq, decide_eq_true_eq]
def glT (U : TS) (c : Nat) : Int := U 8 (tOf U c + 1)
def stp (U : TS) (N : Nat) : Nat → (Nat → Int) × (Nat → Int)
  | 0 => (U 18, U 19)
  | c + 1 =>
    (fun k => if (stp U N c).2 k = c ∧ (c : Int) < lsT U k then (if (if mxB (at1 (stp U N c).2 (lsT U) c 1) (stp U N c).1 N < 0 then 0 else mxB (at1 (stp U N c).2 (lsT U) c 1) (stp U N c).1 N + glT U c) < (stp U N c).1 k then (stp U N c).1 k - (if mxB (at1 (stp U N c).2 (lsT U) c 1) (stp U N c).1 N < 0 then 0 else mxB (at1 (stp U N c).2 (lsT U) c 1) (stp U N c).1 N + glT U c) else 0) else (stp U N c).1 k,
     fun k => if (stp U N c).2 k = c ∧ (c : Int) < lsT U k then (c : Int) + 1 else (stp U N c).2 k)
def ndT (U : TS) (N c : Nat) : Nat → Int := (stp U N c).1
def frT (U : TS) (N c : Nat) : Nat → Int := (stp U N c).2
def wT (U : TS) (N c : Nat) : Int := mxB (at1 (frT U N c) (lsT U) c 1) (ndT U N c) N
def leT (U : TS) (N c : Nat) : Int := if wT U N c < 0 then 0 else wT U N c + glT U c
theorem nd_succ (U : TS) (N c k : Nat) : ndT U N (c + 1) k = if frT U N c k = c ∧ (c : Int) < lsT U k then (if leT U N c < ndT U N c k then ndT U N c k - leT U N c else 0) else ndT U N c k := rfl
theorem fr_succ (U : TS) (N c k : Nat) : frT U N (c + 1) k = if frT U N c k = c ∧ (c : Int) < lsT U k then (c : Int) + 1 else frT U N c k := rfl
/-- entries as they should be -/
def EnOk (U : TS) (N : Nat) : Prop := ∀ k, k < N → 0 ≤ U 18 k ∧ U 18 k ≤ 102080 ∧ 0 ≤ U 19 k ∧ 1 ≤ U 20 k ∧ U 20 k ≤ 8 ∧ U 19 k + U 20 k ≤ 24
theorem gl_rng {U : TS} (oG : OkG U) {c : Nat} (h : (tOf U c : Int) < 12) : -10000 ≤ glT U c ∧ glT U c ≤ 10000 := by
  have := oG (tOf U c + 1) (by omega)
  unfold glT
  omega
theorem run_rng {U : TS} {N M : Nat} (hE : EnOk U N) (hg : ∀ c : Nat, c < M → -10000 ≤ glT U c ∧ glT U c ≤ 10000) : ∀ c : Nat, c ≤ M → (∀ k, k < N → 0 ≤ ndT U N c k ∧ ndT U N c k ≤ 102080 + 10000 * c) ∧ (∀ k, k < N → U 19 k ≤ frT U N c k ∧ frT U N c k ≤ lsT U k) ∧ -1 ≤ wT U N c ∧ wT U N c ≤ 102080 + 10000 * c := by
  intro c hcM
  have wr : (∀ k, k < N → 0 ≤ ndT U N c k ∧ ndT U N c k ≤ 102080 + 10000 * c) → -1 ≤ wT U N c ∧ wT U N c ≤ 102080 + 10000 * c := fun h => ⟨mxB_ge _ _ _, mxB_le (by omega) _ (fun k hk => (h k hk).2)⟩
  induction c with
  | zero =>
    have h0 : ∀ k, k < N → 0 ≤ ndT U N 0 k ∧ ndT U N 0 k ≤ 102080 + 10000 * ((0 : Nat) : Int) := fun k hk => by
      have := hE k hk
      show 0 ≤ U 18 k ∧ U 18 k ≤ _
      omega
    refine ⟨h0, fun k hk => ?_, wr h0⟩
    have := hE k hk
    show U 19 k ≤ U 19 k ∧ U 19 k ≤ U 19 k + U 20 k - 1
    omega
  | succ c ih =>
    have wr0 : (∀ k, k < N → 0 ≤ ndT U N c k ∧ ndT U N c k ≤ 102080 + 10000 * c) → -1 ≤ wT U N c ∧ wT U N c ≤ 102080 + 10000 * c := fun h => ⟨mxB_ge _ _ _, mxB_le (by omega) _ (fun k hk => (h k hk).2)⟩
    obtain ⟨i1, i2, i3, i4⟩ := ih (by omega) wr0
    have hl : -10000 ≤ leT U N c := by
      have := hg c (by omega)
      unfold leT
      split <;> omega
    have h1 : ∀ k, k < N → 0 ≤ ndT U N (c + 1) k ∧ ndT U N (c + 1) k ≤ 102080 + 10000 * ((c + 1 : Nat) : Int) := fun k hk => by
      have := i1 k hk
      rw [nd_succ]
      split
      · split <;> omega
      · omega
    refine ⟨h1, fun k hk => ?_, wr h1⟩
    have := i2 k hk
    rw [fr_succ]
    split
    · omega
    · exact this
/-- how the greatest needs move on: the class's way is the entries' way -/
theorem mx_move {U : TS} {N c s : Nat} (hs : 1 ≤ s) : ∀ n : Nat, (∀ k, k < n → 0 ≤ ndT U N c k) → mxB (at1 (frT U N (c + 1)) (lsT U) ((c + 1 : Nat) : Int) s) (ndT U N (c + 1)) n = if mxB (at1 (frT U N c) (lsT U) c ((s + 1 : Nat) : Int)) (ndT U N c) n = -1 then mxB (at1 (frT U N c) (lsT U) ((c + 1 : Nat) : Int) s) (ndT U N c) n else if mxB (at1 (frT U N c) (lsT U) ((c + 1 : Nat) : Int) s) (ndT U N c) n < (if 0 < mxB (at1 (frT U N c) (lsT U) c ((s + 1 : Nat) : Int)) (ndT U N c) n - leT U N c then mxB (at1 (frT U N c) (lsT U) c ((s + 1 : Nat) : Int)) (ndT U N c) n - leT U N c else 0) then (if 0 < mxB (at1 (frT U N c) (lsT U) c ((s + 1 : Nat) : Int)) (ndT U N c) n - leT U N c then mxB (at1 (frT U N c) (lsT U) c ((s + 1 : Nat) : Int)) (ndT U N c) n - leT U N c else 0) else mxB (at1 (frT U N c) (lsT U) ((c + 1 : Nat) : Int) s) (ndT U N c) n := by
  intro n
  induction n with
  | zero =>
    intro _
    rfl
  | succ n ih =>
    intro h
    have ih := ih (fun k hk => h k (by omega))
    have hn := h n (by omega)
    rw [mxB_succ, mxB_succ, mxB_succ]
    generalize mxB (at1 (frT U N (c + 1)) (lsT U) ((c + 1 : Nat) : Int) s) (ndT U N (c + 1)) n = C at *
    have gA := mxB_ge (at1 (frT U N c) (lsT U) ((c + 1 : Nat) : Int) s) (ndT U N c) n
    have gB := mxB_ge (at1 (frT U N c) (lsT U) c ((s + 1 : Nat) : Int)) (ndT U N c) n
    generalize mxB (at1 (frT U N c) (lsT U) ((c + 1 : Nat) : Int) s) (ndT U N c) n = A at *
    generalize mxB (at1 (frT U N c) (lsT U) c ((s + 1 : Nat) : Int)) (ndT U N c) n = B at *
    simp only [at1_iff]
    rw [fr_succ, nd_succ]
    by_cases c1 : frT U N c n = c
    · by_cases c2 : lsT U n = (c : Int) + s
      · have e1 : frT U N c n = c ∧ (c : Int) < lsT U n := ⟨c1, by omega⟩
        rw [if_pos e1, if_pos e1, if_pos (show (c : Int) + 1 = ((c + 1 : Nat) : Int) ∧ lsT U n = ((c + 1 : Nat) : Int) + s - 1 by omega), if_pos (show frT U N c n = (c : Int) ∧ lsT U n = (c : Int) + ((s + 1 : Nat) : Int) - 1 by omega), if_neg (show ¬ (frT U N c n = ((c + 1 : Nat) : Int) ∧ lsT U n = ((c + 1 : Nat) : Int) + s - 1) by omega)]
        generalize leT U N c = l at *
        generalize ndT U N c n = v at *
        rw [ih]
        repeat' split
        all_goals omega
      · have n1 : ¬ (frT U N c n = (c : Int) ∧ lsT U n = (c : Int) + ((s + 1 : Nat) : Int) - 1) := by omega
        have n2 : ¬ (frT U N c n = ((c + 1 : Nat) : Int) ∧ lsT U n = ((c + 1 : Nat) : Int) + s - 1) := by omega
        have n3 : ¬ ((if frT U N c n = (c : Int) ∧ (c : Int) < lsT U n then (c : Int) + 1 else frT U N c n) = ((c + 1 : Nat) : Int) ∧ lsT U n = ((c + 1 : Nat) : Int) + s - 1) := by omega
        simp only [n1, n3, if_false]
        generalize leT U N c = l at *
        generalize ndT U N c n = v at *
        rw [ih]
        repeat' split
        all_goals omega
    · have e1 : ¬ (frT U N c n = c ∧ (c : Int) < lsT U n) := fun q => c1 q.1
      rw [if_neg e1, if_neg e1, if_neg (show ¬ (frT U N c n = (c : Int) ∧ lsT U n = (c : Int) + ((s + 1 : Nat) : Int) - 1) from fun q => c1 q.1)]
      by_cases c3 : frT U N c n = ((c + 1 : Nat) : Int) ∧ lsT U n = ((c + 1 : Nat) : Int) + s - 1
      · rw [if_pos c3]
        generalize leT U N c = l at *
        generalize ndT U N c n = v at *
        rw [ih]
        repeat' split
        all_goals omega
      · generalize leT U N c = l at *
        generalize ndT U N c n = v at *
        rw [ih]
        repeat' split
        all_goals omega
theorem mx_rest {U : TS} {N c c' : Nat} {s : Int} (hc : c + 1 < c') : mxB (at1 (frT U N (c + 1)) (lsT U) c' s) (ndT U N (c + 1)) N = mxB (at1 (frT U N c) (lsT U) c' s) (ndT U N c) N := by
  refine mxB_cong (fun k _ => ?_)
  have e : at1 (frT U N (c + 1)) (lsT U) c' s k = at1 (frT U N c) (lsT U) c' s k := by
    unfold at1
    rw [fr_succ]
    split
    · rename_i q
      rw [decide_eq_false (p := (c : Int) + 1 = (c' : Int)) (by omega), decide_eq_false (p := frT U N c k = (c' : Int)) (by omega)]
    · rfl
  refine ⟨e, fun q => ?_⟩
  rw [e, at1_iff] at q
  rw [nd_succ, if_neg (by omega)]
theorem mx_8 {U : TS} {N c : Nat} (hE : EnOk U N) (hfr : ∀ k, k < N → U 19 k ≤ frT U N c k) : mxB (at1 (frT U N (c + 1)) (lsT U) ((c + 1 : Nat) : Int) 8) (ndT U N (c + 1)) N = mxB (at1 (frT U N c) (lsT U) ((c + 1 : Nat) : Int) 8) (ndT U N c) N := by
  refine mxB_cong (fun k hk => ?_)
  have h1 := hE k hk
  have h2 := hfr k hk
  have e : at1 (frT U N (c + 1)) (lsT U) ((c + 1 : Nat) : Int) 8 k = at1 (frT U N c) (lsT U) ((c + 1 : Nat) : Int) 8 k := by
    unfold at1
    rw [fr_succ]
    split
    · rename_i q
      unfold lsT at *
      rw [decide_eq_false (p := U 19 k + U 20 k - 1 = ((c + 1 : Nat) : Int) + 8 - 1) (by omega), Bool.and_false, Bool.and_false]
    · rfl
  refine ⟨e, fun q => ?_⟩
  rw [e, at1_iff] at q
  rw [nd_succ, if_neg (by omega)]
/-- the columns of a run -/
def mxE (U : TS) : Nat → Int
  | 0 => U 4 0
  | k + 1 => if U 19 k + U 20 k ≤ mxE U k then mxE U k else U 19 k + U 20 k
theorem mxE_succ (U : TS) (k : Nat) : mxE U (k + 1) = if U 19 k + U 20 k ≤ mxE U k then mxE U k else U 19 k + U 20 k := rfl
theorem mxE_up (U : TS) (q : Nat) : ∀ j, mxE U q ≤ mxE U (q + j)
  | 0 => Int.le_refl _
  | j + 1 => by
    have := mxE_up U q j
    show _ ≤ mxE U (q + j + 1)
    rw [mxE_succ]
    split <;> omega
theorem mxE_row {U : TS} {q : Nat} {B : Int} : ∀ j : Nat, (∀ i, i < j → U 19 (q + i) + U 20 (q + i) ≤ B) → mxE U (q + j) ≤ (if mxE U q < B then B else mxE U q)
  | 0, _ => by
    show mxE U q ≤ _
    split <;> omega
  | j + 1, h => by
    have h1 := mxE_row (U := U) (q := q) (B := B) j (fun i hi => h i (by omega))
    have h2 := h j (by omega)
    show mxE U (q + j + 1) ≤ _
    rw [mxE_succ]
    by_cases c1 : mxE U q < B
    · rw [if_pos c1] at h1 ⊢
      split <;> omega
    · rw [if_neg c1] at h1 ⊢
      split <;> omega
end RN
