/-! the parts hold as long as their numbers and cells do -/
theorem upT_fn {T : TS} {f k g : Nat} {v : Int} (h : g ≠ f) : upT T f k v g = T g := funext fun j => if_neg (by omega)
section CG
variable {T T1 : TS} {t : Nat} {I I1 : MI} {L L1 : ML}
theorem RCp.cong (h : RCp T t I) (hT : ∀ f, 1 ≤ f → f ≤ 7 → T1 f = T f) (hI : ∀ a, t + 1 ≤ a → a ≤ t + 4 → I1 a = I a) : RCp T1 t I1 := by
  unfold RCp at *
  rw [hT 2 (by decide) (by decide), hT 3 (by decide) (by decide), hT 4 (by decide) (by decide), hT 5 (by decide) (by decide), hT 1 (by decide) (by decide), hT 6 (by decide) (by decide), hT 7 (by decide) (by decide), hI (t + 1) (by omega) (by omega), hI (t + 2) (by omega) (by omega), hI (t + 3) (by omega) (by omega), hI (t + 4) (by omega) (by omega)]
  exact h
theorem RCg.cong (h : RCg T t I) (hT : ∀ f, 8 ≤ f → f ≤ 12 → T1 f = T f) (hI : ∀ a, t + 41 ≤ a → a ≤ t + 53 → I1 a = I a) : RCg T1 t I1 := by
  unfold RCg at *
  intro k hk
  rw [hT 8 (by decide) (by decide), hT 9 (by decide) (by decide), hT 10 (by decide) (by decide), hT 11 (by decide) (by decide), hT 12 (by decide) (by decide), hI (t + 41 + k) (by omega) (by omega)]
  exact h k hk
theorem RCr.cong (h : RCr T t I) (hT : ∀ f, 13 ≤ f → f ≤ 20 → f ≠ 17 → T1 f = T f) (h5 : I1 t 5 = I t 5) (h8 : I1 t 8 = I t 8) (hI : ∀ a, t + 54 ≤ a → a ≤ t + 133 → I1 a = I a) : RCr T1 t I1 := by
  have he : ∀ r, enT T1 r = enT T r := fun r => by unfold enT; rw [hT 16 (by decide) (by decide) (by decide), hT 15 (by decide) (by decide) (by decide), hT 19 (by decide) (by decide) (by decide), hT 20 (by decide) (by decide) (by decide)]
  unfold RCr at *
  obtain ⟨a, b, c, d⟩ := h
  rw [hT 13 (by decide) (by decide) (by decide), hT 14 (by decide) (by decide) (by decide), hT 15 (by decide) (by decide) (by decide), hT 16 (by decide) (by decide) (by decide), hT 18 (by decide) (by decide) (by decide), hT 19 (by decide) (by decide) (by decide), hT 20 (by decide) (by decide) (by decide), h5, h8]
  refine ⟨a, b, fun r hr h20 => ?_, fun r hr h20 => ?_⟩
  · rw [he, hI (t + 54 + 4 * r) (by omega) (by omega), hI (t + 54 + 4 * r + 1) (by omega) (by omega), hI (t + 54 + 4 * r + 2) (by omega) (by omega), hI (t + 54 + 4 * r + 3) (by omega) (by omega)]
    exact c r hr h20
  · rw [hI (t + 54 + 4 * r) (by omega) (by omega)]
    exact d r hr h20
theorem RCi.cong (h : RCi T t I) (hT : ∀ f, 21 ≤ f → f ≤ 23 → T1 f = T f) (h6 : I1 t 6 = I t 6) (h7 : I1 t 7 = I t 7) (hI : I1 (t + 7) = I (t + 7)) : RCi T1 t I1 := by
  unfold RCi at *
  rw [hT 21 (by decide) (by decide), hT 22 (by decide) (by decide), hT 23 (by decide) (by decide), h6, h7, hI]
  exact h
theorem RCn.cong (h : RCn T t I L) (hT : ∀ f, 24 ≤ f → f ≤ 32 → T1 f = T f) (hI : ∀ a, t + 8 ≤ a → a ≤ t + 11 → I1 a = I a) (hL : ∀ a, t + 8 ≤ a → a ≤ t + 11 → L1 a = L a) : RCn T1 t I1 L1 := by
  unfold RCn at *
  rw [hT 24 (by decide) (by decide), hT 25 (by decide) (by decide), hT 26 (by decide) (by decide), hT 27 (by decide) (by decide), hT 28 (by decide) (by decide), hT 29 (by decide) (by decide), hT 30 (by decide) (by decide), hT 31 (by decide) (by decide), hT 32 (by decide) (by decide), hI (t + 8) (by omega) (by omega), hI (t + 8 + 1) (by omega) (by omega), hI (t + 8 + 2) (by omega) (by omega), hL (t + 8) (by omega) (by omega), hL (t + 8 + 3) (by omega) (by omega)]
  exact h
theorem OkP.cong (h : OkP T) (hT : ∀ f, 1 ≤ f → f ≤ 7 → T1 f = T f) : OkP T1 := by
  unfold OkP at *
  rw [hT 1 (by decide) (by decide), hT 2 (by decide) (by decide), hT 3 (by decide) (by decide), hT 4 (by decide) (by decide), hT 5 (by decide) (by decide), hT 6 (by decide) (by decide), hT 7 (by decide) (by decide)]
  exact h
theorem OkG.cong (h : OkG T) (hT : ∀ f, 8 ≤ f → f ≤ 12 → T1 f = T f) : OkG T1 := by
  unfold OkG at *
  rw [hT 8 (by decide) (by decide), hT 9 (by decide) (by decide), hT 10 (by decide) (by decide), hT 11 (by decide) (by decide), hT 12 (by decide) (by decide)]
  exact h
theorem OkR.cong (h : OkR T) (hT : ∀ f, 3 ≤ f → f ≤ 20 → (f < 6 ∨ 12 < f) → T1 f = T f) : OkR T1 := by
  have he : ∀ r, enT T1 r = enT T r := fun r => by unfold enT; rw [hT 16 (by decide) (by decide) (by decide), hT 15 (by decide) (by decide) (by decide), hT 19 (by decide) (by decide) (by decide), hT 20 (by decide) (by decide) (by decide)]
  have hc : clT T1 = clT T := by unfold clT; rw [hT 4 (by decide) (by decide) (by decide), hT 5 (by decide) (by decide) (by decide)]
  unfold OkR at *
  simp only [he, hc, hT 3 (by decide) (by decide) (by decide), hT 13 (by decide) (by decide) (by decide), hT 14 (by decide) (by decide) (by decide), hT 15 (by decide) (by decide) (by decide), hT 16 (by decide) (by decide) (by decide), hT 17 (by decide) (by decide) (by decide), hT 18 (by decide) (by decide) (by decide), hT 19 (by decide) (by decide) (by decide), hT 20 (by decide) (by decide) (by decide)]
  exact h
theorem OkI.cong (h : OkI T) (h13 : T1 13 0 = T 13 0) (hT : ∀ f, 21 ≤ f → f ≤ 23 → T1 f = T f) : OkI T1 := by
  unfold OkI at *
  rw [h13, hT 21 (by decide) (by decide), hT 23 (by decide) (by decide)]
  exact h
theorem OkN.cong {K : Nat} (h : OkN K T) (hT : ∀ f, 24 ≤ f → f ≤ 30 → T1 f = T f) : OkN (K + 1) T1 := by
  unfold OkN at *
  rw [hT 24 (by decide) (by decide), hT 25 (by decide) (by decide), hT 26 (by decide) (by decide), hT 27 (by decide) (by decide), hT 29 (by decide) (by decide), hT 30 (by decide) (by decide)]
  exact ⟨⟨h.1.1, by have := h.1.2; omega⟩, h.2⟩
end CG
