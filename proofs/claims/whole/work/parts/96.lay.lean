section LY2
variable {K : Nat} {G : GX} {x m o n : Nat} {Sh : SH} {F : Nat → Option Nat} {I I0 I1 I2 : MI} {L L1 L2 : ML} {tb : Nat → Nat} {T : Nat → TS}
theorem scan_w {tp : Nat → Int} {len w : Nat} : ∀ (d i : Nat) (mr : Bool) (n : Nat) (rep : Int) (bf bh : Nat → Int), i + d = len → (scan tp len d i mr n rep bf bh).1 = some w → w ≤ len := by
  intro d
  induction d with
  | zero =>
    intro i mr n rep bf bh h1 h2
    rw [scan] at h2
    cases mr
    · have : len = w := Option.some.inj h2
      omega
    · cases h2
  | succ d ih =>
    intro i mr n rep bf bh h1 h2
    rw [scan] at h2
    have self : ∀ {n : Nat} {rep : Int} {bf bh : Nat → Int}, ((some i, n, rep, bf, bh) : Sc).1 = some w → w ≤ len := fun h => by
      have : i = w := Option.some.inj h
      omega
    repeat' split at h2
    all_goals first
      | exact self h2
      | exact ih (i + 1) _ _ _ _ _ (by omega) h2
theorem k_fill {N a : Nat} {v : Int32} {Q : MI → ML → Prop} (hN : N < 2147483648) (hQ : ∀ J : MI, (∀ k, k < N → J a k = v) → (∀ b, b ≠ a → J b = I b) → Q J L) : wp_J7_fill_53178 G Sh N a v I L Q := by
  have go : ∀ (d k : Nat), k + d = N → ∀ J : MI, (∀ j, j < k → J a j = v) → (∀ b, b ≠ a → J b = I b) → wp_J7_fill_53178_5 G Sh N a v Q (d + 1) (iI k) (iI N) J L := by
    intro d
    induction d with
    | zero =>
      intro k h1 J h2 h3
      show wb_J7_fill_53178_5 G Sh N a v Q _ _ _ J L
      unfold wb_J7_fill_53178_5
      exact le_br rfl rfl (by omega) (by omega) (fun _ => hQ J (fun j hj => h2 j (by omega)) h3) (fun q => absurd (by omega) q)
    | succ d ih =>
      intro k h1 J h2 h3
      show wb_J7_fill_53178_5 G Sh N a v Q (wp_J7_fill_53178_5 G Sh N a v Q (d + 1)) _ _ J L
      unfold wb_J7_fill_53178_5
      refine le_br rfl rfl (by omega) (by omega) (fun q => absurd q (by omega)) (fun _ => ⟨in_ok rfl (by omega) (by omega), fun J2 e x5 e5 => ?_⟩)
      rw [nat_ok rfl (by omega)] at e
      rw [e5, iI_1, iI_add]
      refine ih (k + 1) (by omega) J2 (fun j hj => ?_) (fun b hb => by rw [e, mu_off hb]; exact h3 b hb)
      rw [e]
      by_cases q : j = k
      · exact mu_hit ⟨rfl, q⟩
      · rw [mu_miss (Or.inr q)]
        exact h2 j (by omega)
  intro x1 e1
  refine ⟨N + 1, ?_⟩
  rw [e1, show Int32.ofNat N = iI N from nI_iI (by omega)]
  exact go N 0 (by omega) I (fun j hj => absurd hj (by omega)) (fun _ _ => rfl)
/-- the reader's answer -/
def scanR (U : TS) : Sc := scan (U 1) (U 2 0).toNat (U 2 0).toNat 0 false 1 (-1) (fun _ => 0) (fun _ => 0)
theorem k_readC {U : TS} {t : Nat} {Q : Int32 → MI → ML → Prop} (hC : RC U t I L) (oP : OkP U) (k3 : ¬ U 3 0 = 0 → Q (-3) I L)
    (kb : U 3 0 = 0 → ∀ (w : Nat) (J : MI), (scanR U).1 = some w → CF t I L J L → (∀ a : Nat, a < t + 1 ∨ t + 4 < a → J a = I a) → J (t + 1) 3 = iI 0 ∧ J (t + 1) 4 = iI 0 ∧ J (t + 1) 5 = iI 0 ∧ J (t + 1) 6 = iI (-1) → Q (iI (-10 - (w : Int))) J L)
    (kk : U 3 0 = 0 → ∀ J : MI, (scanR U).1 = none → CF t I L J L → (∀ a : Nat, a < t + 1 ∨ t + 4 < a → J a = I a) → J (t + 1) 3 = iI (U 2 0) ∧ J (t + 1) 4 = iI 1 ∧ J (t + 1) 5 = iI (scanR U).2.1 ∧ J (t + 1) 6 = iI (scanR U).2.2.1 ∧ J (t + 2) = I (t + 2) ∧ (∀ k, k < 12 → J (t + 3) k = iI ((scanR U).2.2.2.1 k)) ∧ (∀ k, k < 12 → J (t + 4) k = iI ((scanR U).2.2.2.2 k)) → Q (iI (scanR U).2.1) J L) : wp_X3_readTape G Sh (t + 1) I L Q := by
  have p1 := oP.1
  have p2 := oP.2.1
  have hs := oP.2.2.1
  obtain ⟨len, hlen⟩ : ∃ len : Nat, U 2 0 = (len : Int) := ⟨(U 2 0).toNat, by omega⟩
  have eR : scanR U = scan (U 1) len len 0 false 1 (-1) (fun _ => 0) (fun _ => 0) := by
    unfold scanR
    rw [hlen]
    rfl
  rw [eR] at kb kk
  obtain ⟨c3, c4, c5, c6, c2, -, -⟩ := id hC.1
  unfold wp_X3_readTape
  refine eq_br c4 iI_0 (by omega) (by omega) (fun hl => ?_) k3
  unfold wp_X3_findWrongPlace
  refine k_fill (by omega) (fun J1 f1 o1 => k_fill (by omega) (fun J2 f2 o2 J3 e3 J4 e4 => ⟨len + 1, ?_⟩))
  have b : ∀ a : Nat, a < t + 1 ∨ t + 4 < a → J4 a = I a := fun a ha => by rw [e4, e3, mu_off (by omega), mu_off (by omega), o2 a (by omega), o1 a (by omega)]
  have hP : PS t len I J4 1 (-1) (fun _ => 0) (fun _ => 0) := by
    have q1 : ∀ k, J2 (t + 1) k = I (t + 1) k := fun k => by rw [o2 _ (by omega), o1 _ (by omega)]
    refine ⟨?_, ?_, ?_, ?_, ?_, fun k hk => ?_, fun k hk => ?_, b⟩
    · rw [e4, e3, mu_miss (Or.inr (by decide)), mu_miss (Or.inr (by decide)), q1, c3, hlen]
    · rw [e4, e3, mu_miss (Or.inr (by decide)), mu_miss (Or.inr (by decide)), q1, c4, hl]
    · rw [e4, e3, mu_miss (Or.inr (by decide)), mu_hit ⟨rfl, rfl⟩]; rfl
    · rw [e4, e3, mu_miss (Or.inr (by decide)), mu_miss (Or.inr (by decide)), q1, c6]
      congr 1
      omega
    · rw [e4, e3, mu_off (by omega), mu_off (by omega), o2 _ (by omega), o1 _ (by omega)]
    · rw [e4, e3, mu_miss (Or.inl (by omega)), mu_miss (Or.inl (by omega)), o2 _ (by omega)]
      exact f1 k hk
    · rw [e4, e3, mu_miss (Or.inl (by omega)), mu_miss (Or.inl (by omega))]
      exact f2 k hk
  have cf : ∀ J : MI, (∀ a : Nat, a < t + 1 ∨ t + 4 < a → J a = I a) → CF t I L J L := fun J h a ha => ⟨h a (by omega), rfl⟩
  refine scanC (by omega) (fun k hk => hs k (by omega)) (fun k hk => c2 k (by omega)) len 0 false 1 (-1) (fun _ => 0) (fun _ => 0) J4 (by omega) (by omega) (by omega) hP (by rw [e4]; exact mu_hit ⟨rfl, rfl⟩) (fun w J5 hw g5 g4 => ?_) (fun J5 hw g5 => ?_)
  · have := scan_w len 0 false 1 (-1) (fun _ => 0) (fun _ => 0) (by omega) hw
    refine eq_br rfl iI_m1 (by omega) (by omega) (fun q => absurd q (by omega)) (fun _ J6 e6 J7 e7 J8 e8 => ?_)
    have h8 : ∀ a : Nat, a < t + 1 ∨ t + 4 < a → J8 a = I a := fun a ha => by rw [e8, e7, e6, mu_off (by omega), mu_off (by omega), mu_off (by omega)]; exact g5 a ha
    rw [show (-10 : Int32) = iI (-10) by decide, iI_sub]
    refine kb hl w J8 hw (cf J8 h8) h8 ⟨?_, ?_, ?_, ?_⟩
    · rw [e8, e7, e6, mu_miss (Or.inr (by decide)), mu_miss (Or.inr (by decide)), mu_hit ⟨rfl, rfl⟩]; rfl
    · rw [e8, e7, e6, mu_miss (Or.inr (by decide)), mu_miss (Or.inr (by decide)), mu_miss (Or.inr (by decide))]; exact g4
    · rw [e8, e7, mu_miss (Or.inr (by decide)), mu_hit ⟨rfl, rfl⟩]; rfl
    · rw [e8, mu_hit ⟨rfl, rfl⟩]; decide
  · obtain ⟨s3, s4, s5, s6, s2, sf, sh, sa⟩ := g5
    refine br_y rfl (fun J6 e6 => ?_)
    have h6 : ∀ a : Nat, a < t + 1 ∨ t + 4 < a → J6 a = I a := fun a ha => by rw [e6, mu_off (by omega)]; exact sa a ha
    have r5 : J6 (t + 1) 5 = iI (scan (U 1) len len 0 false 1 (-1) (fun _ => 0) (fun _ => 0)).2.1 := by rw [e6, mu_miss (Or.inr (by decide))]; exact s5
    rw [r5]
    refine kk hl J6 hw (cf J6 h6) h6 ⟨?_, ?_, r5, ?_, ?_, fun k hk => ?_, fun k hk => ?_⟩
    · rw [e6, mu_miss (Or.inr (by decide)), hlen]; exact s3
    · rw [e6, mu_hit ⟨rfl, rfl⟩]; rfl
    · rw [e6, mu_miss (Or.inr (by decide))]; exact s6
    · rw [e6, mu_off (by omega)]; exact s2
    · rw [e6, mu_miss (Or.inl (by omega))]; exact sf k hk
    · rw [e6, mu_miss (Or.inl (by omega))]; exact sh k hk
/-- the model's reader -/
def SgOk (V : TS) (len : Nat) : Prop := V 2 0 = (len : Int) ∧ len ≤ 40 ∧ ∀ k : Nat, k < len → V 1 k = 35 ∨ V 1 k = 38 ∨ 97 ≤ V 1 k ∧ V 1 k ≤ 122
theorem k_sign {V : TS} {i a len : Nat} {Q : Int32 → MI → ML → Prop} (hM : RM V m i I L) (hi : i < 6) (hV : SgOk V len) (h36 : I m 36 = iI a) (ha : a ≤ len) (hQ : ∀ v : Int, (a < len → v = V 1 a) → (len ≤ a → v = 0) → Q (iI v) I L) : wp_X7_sign G Sh m (iI i) I L Q := by
  have vi : vp_in (iI (i : Int)) 6 := in_ok rfl hi (by omega)
  have ei : (iI (i : Int)).toNatClampNeg = i := nat_ok rfl (by omega)
  obtain ⟨v1, v2, v3⟩ := hV
  unfold wp_X7_sign
  rw [ei, h36, hM.i2, v1]
  refine ⟨vi, le_br rfl rfl (by omega) (by omega) (fun q => ?_) (fun q x3 e3 => ?_)⟩
  · exact hQ 0 (fun z => absurd z (by omega)) (fun _ => rfl)
  · have e3 : x3 = iI ((40 * i + a : Nat) : Int) := by rw [e3]; exact ix_ok 40 i a
    refine ⟨in_ok e3 (by omega) (by omega), ?_⟩
    rw [nat_ok e3 (by omega), hM.i1 (by omega)]
    exact hQ _ (fun _ => rfl) (fun z => absurd z (by omega))
theorem addL_0 (k : Nat) (f : Nat → Int) : addL k f 0 = f := funext fun j => by unfold addL; split <;> omega
theorem addL_add (k : Nat) (f : Nat → Int) (v w : Int) : addL k (addL k f v) w = addL k f (v + w) := funext fun j => by unfold addL; split <;> omega
theorem k_pass {V : TS} {i len : Nat} {Q : Int32 → MI → ML → Prop} (hi : i < 6) (hV : SgOk V len) : ∀ (d a : Nat) (s : Int) (J : MI), a + d = len → RM V m i J L → J m 36 = iI a →
    (∀ (J2 : MI) (a2 : Nat) (v : Int), a ≤ a2 → a2 ≤ len → (a2 = a ∨ 97 ≤ V 1 (a2 - 1) ∧ V 1 (a2 - 1) ≤ 122) → (a2 < len → V 1 a2 = 35 ∨ V 1 a2 = 38) → RM V m i J2 L → MF m i J L J2 L → J2 m 36 = iI a2 → J2 m 37 = J m 37 → (∀ (mr : Bool) (n : Nat) (rep : Int) (bf bh : Nat → Int), scan (V 1) len (len - a) a mr n rep bf bh = scan (V 1) len (len - a2) a2 mr n rep (if mr = true then bf else addL (n - 1) bf v) (if mr = true then addL (n - 1) bh v else bh)) → Q (iI (s + v)) J2 L) → wp_X7_passLetters_2 G Sh m (iI i) Q (d + 1) (iI s) J L := by
  intro d
  induction d with
  | zero =>
    intro a s J h1 hR h36 hQ
    show wb_X7_passLetters_2 G Sh m (iI i) Q _ _ J L
    unfold wb_X7_passLetters_2
    refine k_sign hR hi hV h36 (by omega) (fun v hv hv0 => ?_)
    rw [hv0 (by omega)]
    refine k_isLetter (by omega) (fun q => absurd q (by omega)) (fun _ => br_y rfl ?_)
    have := hQ J a 0 (by omega) (by omega) (Or.inl rfl) (fun q => absurd q (by omega)) hR MF.rf h36 rfl (fun mr n rep bf bh => by rw [addL_0, addL_0]; cases mr <;> rfl)
    rwa [Int.add_zero] at this
  | succ d ih =>
    intro a s J h1 hR h36 hQ
    show wb_X7_passLetters_2 G Sh m (iI i) Q (wp_X7_passLetters_2 G Sh m (iI i) Q (d + 1)) _ J L
    unfold wb_X7_passLetters_2
    have sg := hV.2.2 a (by omega)
    refine k_sign hR hi hV h36 (by omega) (fun v hv _ => ?_)
    have hv := hv (by omega)
    refine k_isLetter (by omega) (fun q => br_n (by decide) ?_) (fun q => br_y rfl ?_)
    · refine k_sign hR hi hV h36 (by omega) (fun v2 hv2 _ x11 e11 J1 e1 => ?_)
      rw [hv2 (by omega), iI_add, iI_97, iI_sub, iI_1, iI_add] at e11
      rw [h36, iI_1, iI_add] at e1
      rw [e11]
      refine ih (a + 1) _ J1 (by omega) (by rw [e1]; exact hR.out (by omega)) (by rw [e1]; exact mu_hit ⟨rfl, rfl⟩) (fun J2 a2 w g1 g2 g3 g4 g5 g6 g7 g8 g9 => ?_)
      have k3 : 97 ≤ V 1 (a2 - 1) ∧ V 1 (a2 - 1) ≤ 122 := by
        rcases g3 with g3 | g3
        · rw [show a2 - 1 = a by omega]
          omega
        · exact g3
      have := hQ J2 a2 (V 1 a - 96 + w) (by omega) g2 (Or.inr k3) g4 g5 ((MF.rf.fld (k := 36) (by decide)).tr (by rw [← e1]; exact g6)) g7 (by rw [g8, e1, mu_miss (Or.inr (by decide))]) (fun mr n rep bf bh => ?_)
      · rw [show s + V 1 a - 97 + 1 + w = s + (V 1 a - 96 + w) by omega]
        exact this
      · rw [show len - a = (len - (a + 1)) + 1 by omega]
        cases mr
        · rw [(scan_let (by omega)).2, g9 false]
          simp only [Bool.false_eq_true, if_false, addL_add]
        · rw [(scan_let (by omega)).1, g9 true]
          simp only [if_true, addL_add]
    · have := hQ J a 0 (by omega) (by omega) (Or.inl rfl) (fun _ => by omega) hR MF.rf h36 rfl (fun mr n rep bf bh => by rw [addL_0, addL_0]; cases mr <;> rfl)
      rwa [Int.add_zero] at this
end LY2
