/-! lay: the tape's reader as a function -/
abbrev Sc : Type := Option Nat × Nat × Int × (Nat → Int) × (Nat → Int)
def addL (k : Nat) (f : Nat → Int) (v : Int) : Nat → Int := fun j => if j = k then f j + v else f j
def scan (tp : Nat → Int) (len : Nat) : Nat → Nat → Bool → Nat → Int → (Nat → Int) → (Nat → Int) → Sc
  | 0, _, mr, n, rep, bf, bh => (if mr = true then none else some len, n, rep, bf, bh)
  | d + 1, i, mr, n, rep, bf, bh =>
    if tp i = 35 then (if mr = true then (some i, n, rep, bf, bh) else scan tp len d (i + 1) true n rep bf bh)
    else if tp i = 38 then
      (if mr = true then (if n < 12 then scan tp len d (i + 1) false (n + 1) rep bf bh else (some i, n, rep, bf, bh))
      else (if rep = -1 ∧ (i = 0 ∨ tp (i - 1) = 38) then scan tp len d (i + 1) false n ((n : Int) - 1) bf bh else (some i, n, rep, bf, bh)))
    else (if mr = true then scan tp len d (i + 1) true n rep bf (addL (n - 1) bh (tp i - 96)) else scan tp len d (i + 1) false n rep (addL (n - 1) bf (tp i - 96)) bh)
section LY
variable {K : Nat} {G : GX} {x m o n : Nat} {Sh : SH} {F : Nat → Option Nat} {I I0 I1 I2 : MI} {L L1 L2 : ML} {tb : Nat → Nat} {T : Nat → TS}
theorem scan_hash {tp : Nat → Int} {len d i n : Nat} {rep : Int} {bf bh : Nat → Int} (h : tp i = 35) : scan tp len (d + 1) i true n rep bf bh = (some i, n, rep, bf, bh) ∧ scan tp len (d + 1) i false n rep bf bh = scan tp len d (i + 1) true n rep bf bh := by
  constructor
  · rw [scan, if_pos h, if_pos rfl]
  · rw [scan, if_pos h, if_neg (by decide)]
theorem scan_amp {tp : Nat → Int} {len d i n : Nat} {rep : Int} {bf bh : Nat → Int} (h : tp i = 38) : scan tp len (d + 1) i true n rep bf bh = (if n < 12 then scan tp len d (i + 1) false (n + 1) rep bf bh else (some i, n, rep, bf, bh)) ∧ scan tp len (d + 1) i false n rep bf bh = (if rep = -1 ∧ (i = 0 ∨ tp (i - 1) = 38) then scan tp len d (i + 1) false n ((n : Int) - 1) bf bh else (some i, n, rep, bf, bh)) := by
  constructor
  · rw [scan, if_neg (by omega), if_pos h, if_pos rfl]
  · rw [scan, if_neg (by omega), if_pos h, if_neg (by decide)]
theorem scan_let {tp : Nat → Int} {len d i n : Nat} {rep : Int} {bf bh : Nat → Int} (h : tp i ≠ 35 ∧ tp i ≠ 38) : scan tp len (d + 1) i true n rep bf bh = scan tp len d (i + 1) true n rep bf (addL (n - 1) bh (tp i - 96)) ∧ scan tp len (d + 1) i false n rep bf bh = scan tp len d (i + 1) false n rep (addL (n - 1) bf (tp i - 96)) bh := by
  constructor
  · rw [scan, if_neg h.1, if_neg h.2, if_pos rfl]
  · rw [scan, if_neg h.1, if_neg h.2, if_neg (by decide)]
/-- what a right end looks like -/
theorem scan_ok {tp : Nat → Int} {len : Nat} (hs : ∀ k : Nat, k < len → tp k = 35 ∨ tp k = 38 ∨ 97 ≤ tp k ∧ tp k ≤ 122) : ∀ (d i : Nat) (mr : Bool) (n : Nat) (rep : Int) (bf bh : Nat → Int), i + d = len → 1 ≤ n ∧ n ≤ 12 → -1 ≤ rep ∧ rep < n → (mr = false → rep < n) → (∀ k, 0 ≤ bf k ∧ bf k ≤ 26 * i ∧ 0 ≤ bh k ∧ bh k ≤ 26 * i) → (scan tp len d i mr n rep bf bh).1 = none → 1 ≤ (scan tp len d i mr n rep bf bh).2.1 ∧ (scan tp len d i mr n rep bf bh).2.1 ≤ 12 ∧ -1 ≤ (scan tp len d i mr n rep bf bh).2.2.1 ∧ (scan tp len d i mr n rep bf bh).2.2.1 < (scan tp len d i mr n rep bf bh).2.1 ∧ ∀ k, 0 ≤ (scan tp len d i mr n rep bf bh).2.2.2.1 k ∧ (scan tp len d i mr n rep bf bh).2.2.2.1 k ≤ 26 * len ∧ 0 ≤ (scan tp len d i mr n rep bf bh).2.2.2.2 k ∧ (scan tp len d i mr n rep bf bh).2.2.2.2 k ≤ 26 * len := by
  intro d
  induction d with
  | zero =>
    intro i mr n rep bf bh h1 h2 h3 h4 h5 h6
    rw [scan]
    refine ⟨h2.1, h2.2, h3.1, h3.2, fun k => ?_⟩
    have := h5 k
    rw [show len = i by omega]
    exact this
  | succ d ih =>
    intro i mr n rep bf bh h1 h2 h3 h4 h5 h6
    have s := hs i (by omega)
    have grow : ∀ k, 0 ≤ bf k ∧ bf k ≤ 26 * ((i + 1 : Nat) : Int) ∧ 0 ≤ bh k ∧ bh k ≤ 26 * ((i + 1 : Nat) : Int) := fun k => by have := h5 k; omega
    by_cases c1 : tp i = 35
    · cases mr
      · rw [(scan_hash c1).2] at h6 ⊢
        exact ih (i + 1) true n rep bf bh (by omega) h2 h3 (fun _ => h3.2) grow h6
      · rw [(scan_hash c1).1] at h6
        cases h6
    by_cases c2 : tp i = 38
    · cases mr
      · rw [(scan_amp c2).2] at h6 ⊢
        split at h6
        · rename_i q
          rw [if_pos q]
          exact ih (i + 1) false n _ bf bh (by omega) h2 ⟨by omega, by omega⟩ (fun _ => by omega) grow h6
        · cases h6
      · rw [(scan_amp c2).1] at h6 ⊢
        split at h6
        · rename_i q
          rw [if_pos q]
          exact ih (i + 1) false (n + 1) rep bf bh (by omega) ⟨by omega, by omega⟩ ⟨h3.1, by omega⟩ (fun _ => by omega) grow h6
        · cases h6
    · have sl : 97 ≤ tp i ∧ tp i ≤ 122 := by omega
      cases mr
      · rw [(scan_let ⟨c1, c2⟩).2] at h6 ⊢
        refine ih (i + 1) false n rep _ bh (by omega) h2 h3 h4 (fun k => ?_) h6
        have := h5 k
        unfold addL
        split <;> omega
      · rw [(scan_let ⟨c1, c2⟩).1] at h6 ⊢
        refine ih (i + 1) true n rep bf _ (by omega) h2 h3 h4 (fun k => ?_) h6
        have := h5 k
        unfold addL
        split <;> omega
/-- the class's memory while it reads -/
def PS (t len : Nat) (I0 J : MI) (n : Nat) (rep : Int) (bf bh : Nat → Int) : Prop := J (t + 1) 3 = iI len ∧ J (t + 1) 4 = iI 0 ∧ J (t + 1) 5 = iI n ∧ J (t + 1) 6 = iI rep ∧ J (t + 2) = I0 (t + 2) ∧ (∀ k, k < 12 → J (t + 3) k = iI (bf k)) ∧ (∀ k, k < 12 → J (t + 4) k = iI (bh k)) ∧ ∀ a : Nat, a < t + 1 ∨ t + 4 < a → J a = I0 a
def bI (b : Bool) : Int := if b = true then 1 else 0
theorem scanC {tp : Nat → Int} {t len : Nat} {Q : Int32 → MI → ML → Prop} (hlen : len ≤ 40) (hs : ∀ k : Nat, k < len → tp k = 35 ∨ tp k = 38 ∨ 97 ≤ tp k ∧ tp k ≤ 122) (ht : ∀ k : Nat, k < len → I0 (t + 2) k = iI (tp k)) : ∀ (d i : Nat) (mr : Bool) (n : Nat) (rep : Int) (bf bh : Nat → Int) (J : MI), i + d = len → 1 ≤ n ∧ n ≤ 12 → -1 ≤ rep ∧ rep < n → PS t len I0 J n rep bf bh → J (t + 1) 7 = iI (bI mr) →
    (∀ (w : Nat) (J2 : MI), (scan tp len d i mr n rep bf bh).1 = some w → (∀ a : Nat, a < t + 1 ∨ t + 4 < a → J2 a = I0 a) → J2 (t + 1) 4 = iI 0 → Q (iI w) J2 L) → (∀ (J2 : MI), (scan tp len d i mr n rep bf bh).1 = none → PS t len I0 J2 (scan tp len d i mr n rep bf bh).2.1 (scan tp len d i mr n rep bf bh).2.2.1 (scan tp len d i mr n rep bf bh).2.2.2.1 (scan tp len d i mr n rep bf bh).2.2.2.2 → Q (-1) J2 L) → wp_X3_findWrongPlace_28 G Sh (t + 1) Q (d + 1) (iI i) J L := by
  intro d
  induction d with
  | zero =>
    intro i mr n rep bf bh J h1 h2 h3 hP h7 kb kk
    obtain ⟨p3, p4, p5, p6, p2, pf, ph, pa⟩ := id hP
    show wb_X3_findWrongPlace_28 G Sh (t + 1) Q _ _ J L
    unfold wb_X3_findWrongPlace_28
    refine le_br p3 rfl (by omega) (by omega) (fun _ => ?_) (fun q => absurd (by omega) q)
    cases mr
    · refine eq_br h7 iI_0 (by decide) (by omega) (fun _ => ?_) (fun q => absurd rfl q)
      rw [p3]
      refine kb len J ?_ pa p4
      rw [scan]
      rfl
    · refine eq_br h7 iI_0 (by decide) (by omega) (fun q => absurd q (by decide)) (fun _ => ?_)
      refine kk J ?_ ?_
      · rw [scan]
        rfl
      · rw [scan]
        exact hP
  | succ d ih =>
    intro i mr n rep bf bh J h1 h2 h3 hP h7 kb kk
    obtain ⟨p3, p4, p5, p6, p2, pf, ph, pa⟩ := id hP
    show wb_X3_findWrongPlace_28 G Sh (t + 1) Q (wp_X3_findWrongPlace_28 G Sh (t + 1) Q (d + 1)) _ J L
    unfold wb_X3_findWrongPlace_28
    refine le_br p3 rfl (by omega) (by omega) (fun q => absurd q (by omega)) (fun _ => ?_)
    have s := hs i (by omega)
    have bad : ∀ J2 : MI, (scan tp len (d + 1) i mr n rep bf bh).1 = some i → (∀ a : Nat, a < t + 1 ∨ t + 4 < a → J2 a = I0 a) → J2 (t + 1) 4 = iI 0 → ((0 : Int32) = 0 → Q (iI i) J2 L) ∧ (¬ (0 : Int32) = 0 → ∀ x_15 : Int32, x_15 = iI i + (1 : Int32) → wp_X3_findWrongPlace_28 G Sh (t + 1) Q (d + 1) x_15 J2 L) := fun J2 e f g => br_y rfl (kb i J2 e f g)
    have good : ∀ (mr' : Bool) (n' : Nat) (rep' : Int) (bf' bh' : Nat → Int) (J2 : MI), scan tp len (d + 1) i mr n rep bf bh = scan tp len d (i + 1) mr' n' rep' bf' bh' → 1 ≤ n' ∧ n' ≤ 12 → -1 ≤ rep' ∧ rep' < n' → PS t len I0 J2 n' rep' bf' bh' → J2 (t + 1) 7 = iI (bI mr') → ((1 : Int32) = 0 → Q (iI i) J2 L) ∧ (¬ (1 : Int32) = 0 → ∀ x_15 : Int32, x_15 = iI i + (1 : Int32) → wp_X3_findWrongPlace_28 G Sh (t + 1) Q (d + 1) x_15 J2 L) := by
      intro mr' n' rep' bf' bh' J2 e g2 g3 gP g7
      refine br_n (by decide) (fun x15 e15 => ?_)
      rw [e15, iI_1, iI_add]
      rw [e] at kb kk
      exact ih (i + 1) mr' n' rep' bf' bh' J2 (by omega) g2 g3 gP g7 kb kk
    unfold wp_X3_takeSign
    refine ⟨in_ok rfl (by omega) (by omega), fun x2 e2 => ?_⟩
    rw [nat_ok rfl (by omega), show t + 1 + 1 = t + 2 from rfl, p2, ht i (by omega)] at e2
    refine eq_br e2 iI_35 (by omega) (by omega) (fun c1 => ?_) (fun c1 => eq_br e2 iI_38 (by omega) (by omega) (fun c2 => ?_) (fun c2 => ?_))
    · cases mr
      · refine eq_br h7 iI_0 (by decide) (by omega) (fun _ J2 e => ?_) (fun q => absurd rfl q)
        refine good true n rep bf bh J2 (scan_hash c1).2 h2 h3 ?_ (by rw [e]; exact mu_hit ⟨rfl, rfl⟩)
        rw [e]
        refine ⟨(mu_miss (Or.inr (by decide))).trans p3, (mu_miss (Or.inr (by decide))).trans p4, (mu_miss (Or.inr (by decide))).trans p5, (mu_miss (Or.inr (by decide))).trans p6, (mu_off (by omega)).trans p2, fun k hk => (mu_miss (Or.inl (by omega))).trans (pf k hk), fun k hk => (mu_miss (Or.inl (by omega))).trans (ph k hk), fun a ha => (mu_off (by omega)).trans (pa a ha)⟩
      · refine eq_br h7 iI_0 (by decide) (by omega) (fun q => absurd q (by decide)) (fun _ J2 e => ?_)
        exact bad J2 (by rw [(scan_hash c1).1]) (fun a ha => by rw [e, mu_off (by omega)]; exact pa a ha) (by rw [e, mu_miss (Or.inr (by decide))]; exact p4)
    · cases mr
      · refine eq_br h7 iI_0 (by decide) (by omega) (fun _ => ?_) (fun q => absurd rfl q)
        have hit : rep = -1 ∧ (i = 0 ∨ tp (i - 1) = 38) → wp_X3_beginRepeat_27 G Sh (t + 1) (iI i) (fun r_7 I_8 L_9 => (r_7 &&& 1 = r_7) ∧ ((r_7 = 0 → Q (iI i) I_8 L_9) ∧ (¬ r_7 = 0 → ∀ x_15 : Int32, x_15 = iI i + (1 : Int32) → wp_X3_findWrongPlace_28 G Sh (t + 1) Q (d + 1) x_15 I_8 L_9))) J L := by
          intro q
          unfold wp_X3_beginRepeat_27
          intro J2 e
          rw [p5, iI_1, iI_sub] at e
          refine ⟨by decide, good false n ((n : Int) - 1) bf bh J2 (by rw [(scan_amp c2).2, if_pos q]) h2 ⟨by omega, by omega⟩ ?_ (by rw [e, mu_miss (Or.inr (by decide))]; exact h7)⟩
          rw [e]
          refine ⟨(mu_miss (Or.inr (by decide))).trans p3, (mu_miss (Or.inr (by decide))).trans p4, (mu_miss (Or.inr (by decide))).trans p5, mu_hit ⟨rfl, rfl⟩, (mu_off (by omega)).trans p2, fun k hk => (mu_miss (Or.inl (by omega))).trans (pf k hk), fun k hk => (mu_miss (Or.inl (by omega))).trans (ph k hk), fun a ha => (mu_off (by omega)).trans (pa a ha)⟩
        have miss : ¬ (rep = -1 ∧ (i = 0 ∨ tp (i - 1) = 38)) → ((0 : Int32) &&& 1 = 0) ∧ (((0 : Int32) = 0 → Q (iI i) J L) ∧ (¬ (0 : Int32) = 0 → ∀ x_15 : Int32, x_15 = iI i + (1 : Int32) → wp_X3_findWrongPlace_28 G Sh (t + 1) Q (d + 1) x_15 J L)) := fun q => ⟨by decide, bad J (by rw [(scan_amp c2).2, if_neg q]) pa p4⟩
        unfold wp_X3_beginRepeat
        refine eq_br p6 iI_m1 (by omega) (by omega) (fun r1 => ?_) (fun r1 => miss (fun q => r1 q.1))
        refine le_br rfl iI_0 (by omega) (by omega) (fun z => hit ⟨r1, Or.inl (by omega)⟩) (fun z x3 e3 => ?_)
        have e3 : x3 = iI ((i - 1 : Nat) : Int) := by rw [e3, iI_1, iI_sub]; congr 1; omega
        refine ⟨in_ok e3 (by omega) (by omega), ?_⟩
        have s2 := hs (i - 1) (by omega)
        rw [nat_ok e3 (by omega), show t + 1 + 1 = t + 2 from rfl, p2, ht (i - 1) (by omega)]
        exact eq_br rfl iI_38 (by omega) (by omega) (fun z2 => hit ⟨r1, Or.inr z2⟩) (fun z2 => miss (fun q => by rcases q.2 with q | q <;> omega))
      · refine eq_br h7 iI_0 (by decide) (by omega) (fun q => absurd q (by decide)) (fun _ => ?_)
        unfold wp_X3_beginTemplate
        rw [p5]
        refine lt_br rfl iI_12 (by omega) (by omega) (fun q J2 e J3 e3 => ?_) (fun q => ?_)
        · rw [iI_1, iI_add] at e
          refine ⟨by decide, good false (n + 1) rep bf bh J3 (by rw [(scan_amp c2).1, if_pos (by omega)]) ⟨by omega, by omega⟩ ⟨h3.1, by omega⟩ ?_ (by rw [e3]; exact mu_hit ⟨rfl, rfl⟩)⟩
          rw [e3, e]
          refine ⟨(mu_miss (Or.inr (by decide))).trans ((mu_miss (Or.inr (by decide))).trans p3), (mu_miss (Or.inr (by decide))).trans ((mu_miss (Or.inr (by decide))).trans p4), (mu_miss (Or.inr (by decide))).trans (mu_hit ⟨rfl, rfl⟩), (mu_miss (Or.inr (by decide))).trans ((mu_miss (Or.inr (by decide))).trans p6), (mu_off (by omega)).trans ((mu_off (by omega)).trans p2), fun k hk => (mu_miss (Or.inl (by omega))).trans ((mu_miss (Or.inl (by omega))).trans (pf k hk)), fun k hk => (mu_miss (Or.inl (by omega))).trans ((mu_miss (Or.inl (by omega))).trans (ph k hk)), fun a ha => (mu_off (by omega)).trans ((mu_off (by omega)).trans (pa a ha))⟩
        · exact ⟨by decide, bad J (by rw [(scan_amp c2).1, if_neg (by omega)]) pa p4⟩
    · obtain ⟨n', hn'⟩ : ∃ n' : Nat, n = n' + 1 := ⟨n - 1, by omega⟩
      have ex : ∀ x16 : Int32, x16 = J (t + 1) 5 - (1 : Int32) → x16 = iI n' := fun x16 e => by rw [e, p5, iI_1, iI_sub, hn']; congr 1; omega
      cases mr
      · refine eq_br h7 iI_0 (by decide) (by omega) (fun _ => ?_) (fun q => absurd rfl q)
        unfold wp_X3_takeSign_77
        intro x16 e16
        have e16 := ex x16 e16
        rw [nat_ok e16 (by omega), e2, show t + 1 + 2 = t + 3 from rfl, pf n' (by omega), iI_97, iI_sub, iI_1, iI_add, iI_add]
        refine ⟨in_ok e16 (by omega) (by omega), in_ok e16 (by omega) (by omega), fun J2 e => ?_⟩
        refine good false n rep (addL (n - 1) bf (tp i - 96)) bh J2 (scan_let ⟨c1, c2⟩).2 h2 h3 ?_ (by rw [e, mu_miss (Or.inl (by omega))]; exact h7)
        rw [e]
        refine ⟨(mu_miss (Or.inl (by omega))).trans p3, (mu_miss (Or.inl (by omega))).trans p4, (mu_miss (Or.inl (by omega))).trans p5, (mu_miss (Or.inl (by omega))).trans p6, (mu_off (by omega)).trans p2, fun k hk => ?_, fun k hk => (mu_miss (Or.inl (by omega))).trans (ph k hk), fun a ha => (mu_off (by omega)).trans (pa a ha)⟩
        unfold addL
        by_cases q : k = n'
        · rw [mu_hit ⟨rfl, q⟩, if_pos (by omega), q]
          congr 1
          omega
        · rw [mu_miss (Or.inr q), if_neg (by omega)]
          exact pf k hk
      · refine eq_br h7 iI_0 (by decide) (by omega) (fun q => absurd q (by decide)) (fun _ => ?_)
        unfold wp_X3_takeSign_77
        intro x16 e16
        have e16 := ex x16 e16
        rw [nat_ok e16 (by omega), e2, show t + 1 + 3 = t + 4 from rfl, ph n' (by omega), iI_97, iI_sub, iI_1, iI_add, iI_add]
        refine ⟨in_ok e16 (by omega) (by omega), in_ok e16 (by omega) (by omega), fun J2 e => ?_⟩
        refine good true n rep bf (addL (n - 1) bh (tp i - 96)) J2 (scan_let ⟨c1, c2⟩).1 h2 h3 ?_ (by rw [e, mu_miss (Or.inl (by omega))]; exact h7)
        rw [e]
        refine ⟨(mu_miss (Or.inl (by omega))).trans p3, (mu_miss (Or.inl (by omega))).trans p4, (mu_miss (Or.inl (by omega))).trans p5, (mu_miss (Or.inl (by omega))).trans p6, (mu_off (by omega)).trans p2, fun k hk => (mu_miss (Or.inl (by omega))).trans (pf k hk), fun k hk => ?_, fun a ha => (mu_off (by omega)).trans (pa a ha)⟩
        unfold addL
        by_cases q : k = n'
        · rw [mu_hit ⟨rfl, q⟩, if_pos (by omega), q]
          congr 1
          omega
        · rw [mu_miss (Or.inr q), if_neg (by omega)]
          exact ph k hk
end LY
