section RM1
variable {K : Nat} {G : GX} {x m o n : Nat} {Sh : SH} {F : Nat → Option Nat} {I I0 I1 I2 : MI} {L L0 L1 L2 : ML} {tb : Nat → Nat} {T : Nat → TS} {U V : TS} {b t N cols i : Nat} {E : Int}
def Vb (V U : TS) : Prop := ∀ f, f < 24 → V f = U f
theorem Vb.up {f k : Nat} {v : Int} (h : Vb V U) (hf : 24 ≤ f) : Vb (upT V f k v) U := fun g hg => (upT_fn (by omega)).trans (h g hg)
theorem Vb.tOf (h : Vb V U) (c : Nat) : tOf V c = tOf U c := by
  show (if (c : Int) < V 4 0 then c else (V 5 0 + ((c : Int) - V 5 0) % (V 4 0 - V 5 0)).toNat) = if (c : Int) < U 4 0 then c else (U 5 0 + ((c : Int) - U 5 0) % (U 4 0 - U 5 0)).toNat
  rw [h 4 (by decide), h 5 (by decide)]
theorem Vb.cl (h : Vb V U) : clT V = clT U := by
  unfold clT
  rw [h 4 (by decide), h 5 (by decide)]
theorem k_behind {c : Nat} {Q : Int32 → MI → ML → Prop} (hR : RM V m i I L) (hV : Vb V U) (hi : i < 6) (oP : OkP U) (h3 : U 3 0 = 1) (hc : (c : Int) < clT U) (h24 : c < 24) (hQ : Q (iI ((13 * i + (tOf U c + 1) : Nat) : Int)) I L) : wp_X7_glueBehind G Sh m (iI i) (iI c) I L Q := by
  unfold wp_X7_glueBehind
  refine k_tmplM hR hi (oP.cong (fun f h1 h2 => hV f (by omega))) (by rw [hV 3 (by decide)]; exact h3) (by rw [hV.cl]; exact hc) h24 ?_
  rw [hV.tOf]
  show Q (((13 : Int32) * iI i + 1) + iI (tOf U c)) I L
  rw [iI_13, iI_mul, iI_1, iI_add, iI_add]
  rw [show (13 : Int) * (i : Int) + 1 + (tOf U c : Int) = ((13 * i + (tOf U c + 1) : Nat) : Int) by omega]
  exact hQ
/-- the columns that are known so far -/
def CkM (V U : TS) (N c : Nat) : Prop := ∀ k, k < c → V 26 k = wdT U N k ∧ V 27 k = vdT U N k
theorem k_wog {p : Nat} {Q : Int64 → MI → ML → Prop} (hR : RM V m i I L) (hV : Vb V U) (hi : i < 6) (oP : OkP U) (oG : OkG U) (h3 : U 3 0 = 1) (hcl : (cols : Int) ≤ clT U) (hc24 : cols ≤ 24) (hp : p ≤ cols) (hk : CkM V U N cols) (hQ : Q (jI (gwT U N p)) I L) : wp_X7_widthOfGlue G Sh m (iI i) (iI p) I L Q := by
  have hg8 : ∀ q, q < 13 → -10000 ≤ U 8 q ∧ U 8 q ≤ 10000 := fun q hq => by have := oG q hq; omega
  unfold wp_X7_widthOfGlue
  refine eq_br rfl iI_0 (by omega) (by omega) (fun q x9 e9 => ?_) (fun q x2 e2 => ?_)
  · have e9 : x9 = iI ((13 * i : Nat) : Int) := by rw [e9, iI_13, iI_mul]; congr 1
    have h8 := hg8 0 (by omega)
    refine ⟨in_ok e9 (by omega) (by omega), ?_⟩
    rw [nat_ok e9 (by omega), hR.z8, hV 8 (by decide), iI_long (by omega)]
    unfold gwT at hQ
    rw [if_pos (by omega)] at hQ
    exact hQ
  · have e2 : x2 = iI ((24 * i + (p - 1) : Nat) : Int) := by rw [e2, iI_24, iI_mul, iI_add, iI_1, iI_sub]; congr 1; omega
    have h27 := (hk (p - 1) (by omega)).2
    have hv01 : vdT U N (p - 1) = 0 ∨ vdT U N (p - 1) = 1 := by
      unfold vdT
      split <;> omega
    refine ⟨in_ok e2 (by omega) (by omega), ?_⟩
    rw [nat_ok e2 (by omega), hR.i27 (by omega), h27, show iI (p : Int) - (1 : Int32) = iI ((p - 1 : Nat) : Int) by rw [iI_1, iI_sub]; congr 1; omega]
    unfold gwT at hQ
    rw [if_neg (by omega)] at hQ
    refine eq_br rfl iI_0 (by omega) (by omega) (fun z => ?_) (fun z => ?_)
    · have lt := tOf_lt oP (c := p - 1) (by omega) h3
      have p2 := oP.2.1
      have h8 := hg8 (tOf U (p - 1) + 1) (by omega)
      refine k_behind hR hV hi oP h3 (by omega) (by omega) ⟨in_ok rfl (by omega) (by omega), ?_⟩
      rw [nat_ok rfl (by omega), hR.i8 (by omega), hV 8 (by decide), iI_long (by omega)]
      unfold vdT at z
      split at z
      · omega
      · rename_i z2
        rw [if_neg z2] at hQ
        exact hQ
    · unfold vdT at z
      split at z
      · rename_i z2
        rw [if_pos z2] at hQ
        exact hQ
      · omega
theorem k_gives {p : Nat} {more : Int32} {by_ : Int} {Q : Int64 → MI → ML → Prop} (hR : RM V m i I L) (hV : Vb V U) (hi : i < 6) (oP : OkP U) (oG : OkG U) (h3 : U 3 0 = 1) (hcl : (cols : Int) ≤ clT U) (hc24 : cols ≤ 24) (hp : p ≤ cols) (hk : CkM V U N cols) (hmore : more = 1 ∧ 0 < E ∨ more = 0 ∧ ¬ 0 < E) (hby : -1 ≤ by_ ∧ by_ ≤ 3) (hQ : Q (jI (if goT U E p = by_ then gvT U N E p else 0)) I L) : wp_X7_gives G Sh m (iI i) (iI p) more (iI by_) I L Q := by
  have hgi := giT_lt oP h3 (p := p) (by omega)
  have hq := oG _ hgi
  have f41 : ¬ (0 < p ∧ wT U N (p - 1) < 0) → wp_X7_gives_41 G Sh m (iI i) (iI p) more (iI by_) Q (iI ((13 * i + giT U p : Nat) : Int)) I L := by
    intro hv
    have vg : vp_in (iI ((13 * i + giT U p : Nat) : Int)) 78 := in_ok rfl (by omega) (by omega)
    unfold gvT goT at hQ
    rw [if_neg hv] at hQ
    unfold wp_X7_gives_41
    rw [nat_ok rfl (by omega), hR.i12 hgi, hR.i11 hgi, hR.i10 hgi, hR.i9 hgi, hV 9 (by decide), hV 10 (by decide), hV 11 (by decide), hV 12 (by decide), iI_long (by omega), iI_long (by omega)]
    rcases hmore with ⟨rfl, hE⟩ | ⟨rfl, hE⟩
    · rw [if_pos hE, if_pos hE] at hQ
      refine br_n (by decide) ⟨vg, eq_br rfl rfl (by omega) (by omega) (fun z => ⟨vg, ?_⟩) (fun z => ?_)⟩
      · rw [if_pos z] at hQ; exact hQ
      · rw [if_neg z] at hQ; exact hQ
    · rw [if_neg hE, if_neg hE] at hQ
      refine br_y rfl ⟨vg, eq_br rfl rfl (by omega) (by omega) (fun z => ⟨vg, ?_⟩) (fun z => ?_)⟩
      · rw [if_pos z] at hQ; exact hQ
      · rw [if_neg z] at hQ; exact hQ
  have f22 : ¬ (0 < p ∧ wT U N (p - 1) < 0) → wp_X7_gives_22 G Sh m (iI i) (iI p) more (iI by_) Q I L := by
    intro hv
    have h := f41 hv
    unfold giT at h
    unfold wp_X7_gives_22
    refine eq_br rfl iI_0 (by omega) (by omega) (fun z => ?_) (fun z => ?_)
    · rw [if_pos (by omega)] at h
      rw [show (13 : Int32) * iI i = iI ((13 * i + 0 : Nat) : Int) by rw [iI_13, iI_mul]; congr 1]
      exact h
    · rw [if_neg (by omega)] at h
      rw [show iI (p : Int) - (1 : Int32) = iI ((p - 1 : Nat) : Int) by rw [iI_1, iI_sub]; congr 1; omega]
      exact k_behind hR hV hi oP h3 (by omega) (by omega) h
  unfold wp_X7_gives
  refine le_br rfl iI_0 (by omega) (by omega) (fun z => f22 (by omega)) (fun z x2 e2 => ?_)
  have e2 : x2 = iI ((24 * i + (p - 1) : Nat) : Int) := by rw [e2, iI_24, iI_mul, iI_add, iI_1, iI_sub]; congr 1; omega
  have h27 := (hk (p - 1) (by omega)).2
  have hv01 : vdT U N (p - 1) = 0 ∨ vdT U N (p - 1) = 1 := by
    unfold vdT
    split <;> omega
  refine ⟨in_ok e2 (by omega) (by omega), ?_⟩
  rw [nat_ok e2 (by omega), hR.i27 (by omega), h27]
  refine eq_br rfl iI_0 (by omega) (by omega) (fun y => f22 (fun hv => ?_)) (fun y => ?_)
  · unfold vdT at y
    rw [if_pos hv.2] at y
    omega
  · unfold vdT at y
    split at y
    · rename_i hv
      unfold gvT at hQ
      rw [if_pos (show 0 < p ∧ wT U N (p - 1) < 0 from ⟨by omega, hv⟩)] at hQ
      rw [show (if goT U E p = by_ then (0 : Int) else 0) = 0 by split <;> rfl] at hQ
      exact hQ
    · omega
theorem k_sumOf {q : Nat} {more : Int32} {by_ : Int} {Q : Int64 → MI → ML → Prop} (hR : RM V m i I L) (hV : Vb V U) (hi : i < 6) (oP : OkP U) (oG : OkG U) (h3 : U 3 0 = 1) (hcl : (cols : Int) ≤ clT U) (hc24 : cols ≤ 24) (hq : q ≤ cols + 1) (hk : CkM V U N cols) (hmore : more = 1 ∧ 0 < E ∨ more = 0 ∧ ¬ 0 < E) (hby : -1 ≤ by_ ∧ by_ ≤ 3) (hQ : Q (jI (smT U N E by_ q)) I L) : wp_X7_sumOf G Sh m (iI i) (iI q) more (iI by_) I L Q := by
  have go : ∀ (d k : Nat), k + d = q → wp_X7_sumOf_6 G Sh m (iI i) (iI q) more (iI by_) Q (d + 1) (jI (smT U N E by_ k)) (iI k) I L := by
    intro d
    induction d with
    | zero =>
      intro k h1
      show wb_X7_sumOf_6 G Sh m (iI i) (iI q) more (iI by_) Q _ _ _ I L
      unfold wb_X7_sumOf_6
      exact le_br rfl rfl (by omega) (by omega) (fun _ => by rw [show k = q by omega]; exact hQ) (fun z => absurd (by omega) z)
    | succ d ih =>
      intro k h1
      show wb_X7_sumOf_6 G Sh m (iI i) (iI q) more (iI by_) Q (wp_X7_sumOf_6 G Sh m (iI i) (iI q) more (iI by_) Q (d + 1)) _ _ I L
      unfold wb_X7_sumOf_6
      refine le_br rfl rfl (by omega) (by omega) (fun z => absurd z (by omega)) (fun _ => ?_)
      refine k_gives hR hV hi oP oG h3 hcl hc24 (by omega) hk hmore hby (fun y5 e5 x6 e6 => ?_)
      rw [e5, e6, jI_add, iI_1, iI_add]
      exact ih (k + 1) (by omega)
  exact ⟨q + 1, go q 0 (by omega)⟩
/-- the orders, one after another -/
def orM (U : TS) (N cols : Nat) (E : Int) : Nat → Int
  | 0 => -1
  | j + 1 => if smT U N E j (cols + 1) ≤ 0 then orM U N cols E j else j
theorem sm_pos {by_ : Int} : ∀ p : Nat, (∀ k, k < p → 0 ≤ gvT U N E k) → (0 < smT U N E by_ p ↔ ∃ k, k < p ∧ gvT U N E k ≠ 0 ∧ goT U E k = by_)
  | 0, _ => by
    constructor
    · intro h
      exact absurd h (Int.lt_irrefl 0)
    · rintro ⟨k, hk, -⟩
      omega
  | p + 1, h => by
    have ih := sm_pos (by_ := by_) p (fun k hk => h k (by omega))
    have h1 := h p (by omega)
    have h0 : 0 ≤ smT U N E by_ p := by
      by_cases c : 0 < smT U N E by_ p
      · omega
      · have : ∀ q : Nat, q ≤ p → 0 ≤ smT U N E by_ q := by
          intro q
          induction q with
          | zero => intro _; exact Int.le_refl _
          | succ q ihq =>
            intro hq
            have := ihq (by omega)
            have := h q (by omega)
            show 0 ≤ smT U N E by_ q + (if goT U E q = by_ then gvT U N E q else 0)
            split <;> omega
        exact this p (Nat.le_refl _)
    show 0 < smT U N E by_ p + (if goT U E p = by_ then gvT U N E p else 0) ↔ _
    constructor
    · intro hp
      by_cases c : 0 < smT U N E by_ p
      · obtain ⟨k, a1, a2⟩ := ih.mp c
        exact ⟨k, by omega, a2⟩
      · by_cases c2 : goT U E p = by_
        · rw [if_pos c2] at hp
          exact ⟨p, by omega, by omega, c2⟩
        · rw [if_neg c2] at hp
          omega
    · rintro ⟨k, a1, a2, a3⟩
      by_cases c : k = p
      · rw [c] at a2 a3
        rw [if_pos a3]
        omega
      · have := ih.mpr ⟨k, by omega, a2, a3⟩
        split <;> omega
theorem orP_max : ∀ p : Nat, (∀ k, k < p → 0 ≤ goT U E k) → (∀ k, k < p → gvT U N E k ≠ 0 → goT U E k ≤ orP U N E p) ∧ (orP U N E p = -1 ∧ (∀ k, k < p → gvT U N E k = 0) ∨ ∃ k, k < p ∧ gvT U N E k ≠ 0 ∧ goT U E k = orP U N E p)
  | 0, _ => ⟨fun k hk => absurd hk (by omega), Or.inl ⟨rfl, fun k hk => absurd hk (by omega)⟩⟩
  | p + 1, h => by
    obtain ⟨h1, h2⟩ := orP_max p (fun k hk => h k (by omega))
    have h0 := h p (by omega)
    have e : orP U N E (p + 1) = if gvT U N E p = 0 then orP U N E p else if orP U N E p < goT U E p then goT U E p else orP U N E p := rfl
    by_cases c : gvT U N E p = 0
    · rw [if_pos c] at e
      rw [e]
      refine ⟨fun k hk hv => h1 k (by rcases Nat.lt_or_ge k p with q | q; exact q; exact absurd (by rw [show k = p by omega]; exact c) hv) hv, ?_⟩
      rcases h2 with ⟨a, b⟩ | ⟨k, a, b⟩
      · refine Or.inl ⟨a, fun k hk => ?_⟩
        rcases Nat.lt_or_ge k p with q | q
        · exact b k q
        · rw [show k = p by omega]; exact c
      · exact Or.inr ⟨k, by omega, b⟩
    · rw [if_neg c] at e
      by_cases c2 : orP U N E p < goT U E p
      · rw [if_pos c2] at e
        rw [e]
        refine ⟨fun k hk hv => ?_, Or.inr ⟨p, by omega, c, rfl⟩⟩
        rcases Nat.lt_or_ge k p with q | q
        · have := h1 k q hv
          omega
        · rw [show k = p by omega]; exact Int.le_refl _
      · rw [if_neg c2] at e
        rw [e]
        refine ⟨fun k hk hv => ?_, ?_⟩
        · rcases Nat.lt_or_ge k p with q | q
          · exact h1 k q hv
          · rw [show k = p by omega]; omega
        · rcases h2 with ⟨a, b⟩ | ⟨k, a, b⟩
          · omega
          · exact Or.inr ⟨k, by omega, b⟩
theorem or_same (hE : E ≠ 0) (hg : ∀ k, k ≤ cols → (0 ≤ gvT U N E k ∧ gvT U N E k ≤ 10000) ∧ 0 ≤ goT U E k ∧ goT U E k ≤ 3) : orM U N cols E 4 = orT U N cols E := by
  obtain ⟨h1, h2⟩ := orP_max (U := U) (N := N) (E := E) (cols + 1) (fun k hk => (hg k (by omega)).2.1)
  have hr := or_rng (U := U) (N := N) (fun k hk => (hg k hk).2) (cols + 1) (Nat.le_refl _)
  unfold orT
  rw [if_neg hE]
  generalize orP U N E (cols + 1) = O at *
  have hs : ∀ j : Nat, (0 < smT U N E j (cols + 1) → (j : Int) ≤ O) ∧ ((j : Int) = O → 0 < smT U N E j (cols + 1)) := by
    intro j
    have h := sm_pos (U := U) (N := N) (E := E) (by_ := (j : Int)) (cols + 1) (fun k hk => (hg k (by omega)).1.1)
    constructor
    · intro q
      obtain ⟨k, a1, a2, a3⟩ := h.mp q
      have := h1 k a1 a2
      omega
    · intro q
      rcases h2 with ⟨a, b⟩ | ⟨k, a1, a2, a3⟩
      · omega
      · exact h.mpr ⟨k, a1, a2, by omega⟩
  have s0 := hs 0
  have s1 := hs 1
  have s2 := hs 2
  have s3 := hs 3
  unfold orM orM orM orM orM
  repeat' split
  all_goals omega
theorem sm_none (hg : ∀ k, k ≤ cols → (0 ≤ gvT U N E k ∧ gvT U N E k ≤ 10000) ∧ 0 ≤ goT U E k ∧ goT U E k ≤ 3) : ∀ p, p ≤ cols + 1 → smT U N E (-1) p = 0
  | 0, _ => rfl
  | p + 1, h => by
    have h1 := sm_none hg p (by omega)
    have h2 := hg p (by omega)
    show smT U N E (-1) p + (if goT U E p = -1 then gvT U N E p else 0) = 0
    rw [if_neg (by omega), h1]
    rfl
end RM1
