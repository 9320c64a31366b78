section RC1
variable {K : Nat} {G : GX} {x m o n : Nat} {Sh : SH} {F : Nat → Option Nat} {I I0 I1 I2 : MI} {L L1 L2 : ML} {tb : Nat → Nat} {T : Nat → TS} {U : TS} {b t N : Nat}
def OF (b : Nat) (I : MI) (L : ML) (J : MI) (L1 : ML) : Prop := ∀ a : Nat, a < b ∨ b + 33 ≤ a → J a = I a ∧ L1 a = L a
theorem OF.rf : OF b I L I L := fun _ _ => ⟨rfl, rfl⟩
theorem OF.mu {a k : Nat} {v : Int32} (h : OF b I L I1 L1) (ha : b ≤ a ∧ a < b + 33) : OF b I L (mu I1 a k v) L1 := fun q hq => ⟨by rw [mu_off (by omega)]; exact (h q hq).1, (h q hq).2⟩
theorem OF.mul {a k : Nat} {v : Int64} (h : OF b I L I1 L1) (ha : b ≤ a ∧ a < b + 33) : OF b I L I1 (mul L1 a k v) := fun q hq => ⟨(h q hq).1, by rw [mul_off (by omega)]; exact (h q hq).2⟩
def GrM (b : Nat) (J : MI) (U : TS) (q : Nat) (fr nd : Nat → Int) (c0 : Nat) : Prop := ∀ c s : Nat, c0 ≤ c → c < 24 → 1 ≤ s → s ≤ 8 → J (b + 7 + 2 + c) s = iI (mxB (at1 fr (lsT U) c s) nd q)
theorem k_clear {Q : MI → ML → Prop} (hQ : ∀ J : MI, (∀ c k : Nat, c < 24 → k < 9 → J (b + 2 + c) k = iI (-1)) → (∀ a : Nat, a < b + 2 ∨ b + 26 ≤ a → J a = I a) → Q J L) : wp_X2_clear G Sh b I L Q := by
  have go : ∀ (d c : Nat), c + d = 24 → ∀ J : MI, (∀ q k : Nat, q < c → k < 9 → J (b + 2 + q) k = iI (-1)) → (∀ a : Nat, a < b + 2 ∨ b + 26 ≤ a → J a = I a) → wp_X2_clear_2 G Sh b Q (d + 1) (iI c) J L := by
    intro d
    induction d with
    | zero =>
      intro c h1 J h2 h3
      show wb_X2_clear_2 G Sh b Q _ _ J L
      unfold wb_X2_clear_2
      exact le_br iI_24 rfl (by omega) (by omega) (fun _ => hQ J (fun q k hq hk => h2 q k (by omega) hk) h3) (fun q => absurd (by omega) q)
    | succ d ih =>
      intro c h1 J h2 h3
      show wb_X2_clear_2 G Sh b Q (wp_X2_clear_2 G Sh b Q (d + 1)) _ J L
      unfold wb_X2_clear_2
      refine le_br iI_24 rfl (by omega) (by omega) (fun q => absurd q (by omega)) (fun _ => ⟨in_ok rfl (by omega) (by omega), ?_⟩)
      rw [nat_ok rfl (by omega)]
      refine k_fill (by omega) (fun J2 f o x6 e6 => ?_)
      rw [e6, iI_1, iI_add]
      refine ih (c + 1) (by omega) J2 (fun q k hq hk => ?_) (fun a ha => by rw [o a (by omega)]; exact h3 a ha)
      by_cases e : q = c
      · rw [e, f k hk]
        decide
      · rw [o _ (by omega)]
        exact h2 q k (by omega) hk
  exact ⟨25, go 24 0 (by omega) I (fun q _ hq => absurd hq (by omega)) (fun _ _ => rfl)⟩
theorem k_addN {J : MI} {f s : Nat} {w v : Int} {Q : MI → ML → Prop} (hf : f < 24) (hs : s < 9) (hw : -2147483648 ≤ w ∧ w < 2147483648) (hv : -2147483648 ≤ v ∧ v < 2147483648) (hc : J (b + 7 + 2 + f) s = iI v) (hQ : ∀ J2 : MI, J2 = mu J (b + 7 + 2 + f) s (iI (if v < w then w else v)) → Q J2 L) : wp_X2_add G Sh (b + 7) (iI f) (iI s) (iI w) J L Q := by
  unfold wp_X2_add
  rw [nat_ok rfl (by omega), nat_ok rfl (by omega), hc]
  refine ⟨in_ok rfl hf (by omega), in_ok rfl hf (by omega), in_ok rfl hs (by omega), in_ok rfl hs (by omega), fun J2 e => hQ J2 ?_⟩
  rw [e]
  congr 1
  by_cases c : v < w
  · rw [if_pos ((iI_lt hv hw).mpr c), if_pos c]
  · rw [if_neg (fun h => c ((iI_lt hv hw).mp h)), if_neg c]
theorem GrM.add {J : MI} {q f s : Nat} {fr nd : Nat → Int} (h : GrM b J U q fr nd 0) (hf : fr q = (f : Int)) (hl : lsT U q = (f : Int) + s - 1) : GrM b (mu J (b + 7 + 2 + f) s (iI (if mxB (at1 fr (lsT U) f s) nd q < nd q then nd q else mxB (at1 fr (lsT U) f s) nd q))) U (q + 1) fr nd 0 := by
  intro c s2 h0 h1 h2 h3
  rw [mxB_succ]
  by_cases e : c = f ∧ s2 = s
  · rw [mu_hit ⟨by omega, e.2⟩, if_pos (at1_iff.mpr ⟨by omega, by omega⟩), e.1, e.2]
  · rw [mu_miss (by omega), if_neg (fun z => e (by have := at1_iff.mp z; omega))]
    exact h c s2 h0 h1 h2 h3
theorem mxE_rowT (oP : OkP U) (oR : OkR U) {r : Nat} (hr : (r : Int) < U 13 0) : (if mxE U (U 15 r).toNat < enT U r then enT U r else mxE U (U 15 r).toNat) = mxE U ((U 15 r).toNat + (U 16 r).toNat) := by
  have R := oR.2.2.2.2.2 r hr
  have p2 := oP.2.1
  have h1 := mxE_row (U := U) (q := (U 15 r).toNat) (B := enT U r) (U 16 r).toNat (fun i hi => (R.2.2.2.2.2.2 i (by omega)).2.2.2.2.2)
  have h2 := mxE_up U (U 15 r).toNat (U 16 r).toNat
  have h0 : 0 ≤ mxE U (U 15 r).toNat := by
    have := mxE_up U 0 (U 15 r).toNat
    rw [Nat.zero_add] at this
    have e : mxE U 0 = U 4 0 := rfl
    omega
  have h3 : enT U r ≤ mxE U ((U 15 r).toNat + (U 16 r).toNat) := by
    unfold enT
    split
    · omega
    · obtain ⟨c, hc⟩ : ∃ c, (U 16 r).toNat = c + 1 := ⟨(U 16 r).toNat - 1, by omega⟩
      rw [hc, show (U 15 r + U 16 r - 1).toNat = (U 15 r).toNat + c by omega]
      show _ ≤ mxE U ((U 15 r).toNat + c + 1)
      rw [mxE_succ]
      split <;> omega
  split at h1
  · rename_i q
    rw [if_pos q]
    omega
  · rename_i q
    rw [if_neg q]
    omega
def rfT (U : TS) (N r : Nat) : Nat := if (r : Int) < U 13 0 then (U 15 r).toNat else N
theorem EnOk_of (oP : OkP U) (oR : OkR U) (hN : U 17 0 = (N : Int)) : EnOk U N ∧ N ≤ 480 := by
  obtain ⟨w1, w2, w3, w4, w5, w6⟩ := oR
  have p2 := oP.2.1
  have hcl : clT U ≤ 24 := by
    unfold clT
    split <;> omega
  have key : ∀ (d r : Nat), (r : Int) + d = U 13 0 → ∀ k : Nat, rfT U N r ≤ k → k < N → 0 ≤ U 18 k ∧ U 18 k ≤ 102080 ∧ 0 ≤ U 19 k ∧ 1 ≤ U 20 k ∧ U 20 k ≤ 8 ∧ U 19 k + U 20 k ≤ 24 := by
    intro d
    induction d with
    | zero =>
      intro r hr k h1 h2
      unfold rfT at h1
      rw [if_neg (by omega)] at h1
      omega
    | succ d ih =>
      intro r hr k h1 h2
      have R := w6 r (by omega)
      unfold rfT at h1
      rw [if_pos (by omega)] at h1
      by_cases q : k < (U 15 r).toNat + (U 16 r).toNat
      · have := R.2.2.2.2.2.2 (k - (U 15 r).toNat) (by omega)
        rw [show (U 15 r).toNat + (k - (U 15 r).toNat) = k by omega] at this
        omega
      · refine ih (r + 1) (by omega) k ?_ h2
        unfold rfT
        have R6 := R.2.2.2.2.2.1
        split
        · rw [if_pos (by omega)] at R6
          omega
        · rw [if_neg (by omega)] at R6
          omega
  constructor
  · intro k hk
    refine key (U 13 0).toNat 0 (by omega) k ?_ hk
    unfold rfT
    split
    · rw [w5 (by omega)]
      omega
    · have := w4 (by omega)
      omega
  · rcases (show U 13 0 = 0 ∨ 0 < U 13 0 by omega) with q | q
    · have := w4 q
      omega
    · have R := w6 (U 13 0 - 1).toNat (by omega)
      have R6 := R.2.2.2.2.2.1
      rw [if_neg (by omega)] at R6
      omega
theorem k_gatherNeeds {Q : MI → ML → Prop} (cp : RCp U t I) (cr : RCr U t I) (oP : OkP U) (oR : OkR U) (hN : U 17 0 = (N : Int)) (hQ : ∀ J : MI, OF (t + 8) I L J L → J (t + 8) 8 = iI (mxE U N) → J (t + 8) 7 = I (t + 8) 7 → GrM (t + 8) J U N (U 19) (U 18) 0 → Q J L) : wp_X1_gatherNeeds G Sh (t + 8) t I L Q := by
  have hE := EnOk_of oP oR hN
  obtain ⟨w1, w2, w3, w4, w5, w6⟩ := id oR
  have p2 := oP.2.1
  have hcl : clT U ≤ 24 := by
    unfold clT
    split <;> omega
  have mrng : ∀ q : Nat, q ≤ N → 0 ≤ mxE U q ∧ mxE U q ≤ 24 := by
    intro q hq
    have h1 := mxE_up U 0 q
    have h2 := mxE_row (U := U) (q := 0) (B := 24) q (fun i hi => by rw [Nat.zero_add]; exact (hE.1 i (by omega)).2.2.2.2.2)
    rw [Nat.zero_add] at h1 h2
    have e : mxE U 0 = U 4 0 := rfl
    rw [e] at h1 h2
    split at h2 <;> omega
  have go : ∀ (d r : Nat), (r : Int) + d = U 13 0 → ∀ J : MI, OF (t + 8) I L J L → J (t + 8) 8 = iI (mxE U (rfT U N r)) → J (t + 8) 7 = I (t + 8) 7 → GrM (t + 8) J U (rfT U N r) (U 19) (U 18) 0 → wp_X1_gatherNeeds_20 G Sh (t + 8) t Q (d + 1) (iI r) J L := by
    intro d
    induction d with
    | zero =>
      intro r hr J hO h8 h7 hG
      show wb_X1_gatherNeeds_20 G Sh (t + 8) t Q _ _ J L
      unfold wb_X1_gatherNeeds_20
      have e : rfT U N r = N := if_neg (by omega)
      rw [e] at h8 hG
      exact le_br (by rw [(hO t (by omega)).1]; exact cr.1) rfl (by omega) (by omega) (fun _ => hQ J hO h8 h7 hG) (fun q => absurd (by omega) q)
    | succ d ih =>
      intro r hr J hO h8 h7 hG
      show wb_X1_gatherNeeds_20 G Sh (t + 8) t Q (wp_X1_gatherNeeds_20 G Sh (t + 8) t Q (d + 1)) _ J L
      unfold wb_X1_gatherNeeds_20
      refine le_br (by rw [(hO t (by omega)).1]; exact cr.1) rfl (by omega) (by omega) (fun q => absurd q (by omega)) (fun _ => ⟨in_ok rfl (by omega) (by omega), fun J1 e1 => ?_⟩)
      have R := w6 r (by omega)
      have C := cr.2.2.1 r (by omega) (by omega)
      have e : rfT U N r = (U 15 r).toNat := if_pos (by omega)
      rw [e] at h8 hG
      have R6 := R.2.2.2.2.2.1
      have hle : (U 15 r).toNat + (U 16 r).toNat ≤ N := by
        have := rows_le oR ((U 13 0).toNat - r - 1) r (by omega)
        omega
      have m1 := mrng (U 15 r).toNat (by omega)
      rw [nat_ok rfl (by omega), h8, (hO (t + 54 + 4 * r) (by omega)).1, C.2.1] at e1
      have e1 : J1 = mu J (t + 8) 8 (iI (mxE U ((U 15 r).toNat + (U 16 r).toNat))) := by
        rw [e1, ← mxE_rowT oP oR (show (r : Int) < U 13 0 by omega)]
        congr 1
        by_cases c : mxE U (U 15 r).toNat < enT U r
        · rw [if_pos ((iI_lt (by omega) (by omega)).mpr c), if_pos c]
        · rw [if_neg (fun h => c ((iI_lt (by omega) (by omega)).mp h)), if_neg c]
      have inner : ∀ (d2 j : Nat), j + d2 = (U 16 r).toNat → ∀ J : MI, OF (t + 8) I L J L → J (t + 8) 8 = iI (mxE U ((U 15 r).toNat + (U 16 r).toNat)) → J (t + 8) 7 = I (t + 8) 7 → GrM (t + 8) J U ((U 15 r).toNat + j) (U 19) (U 18) 0 → wp_X1_gatherNeeds_53 G Sh (t + 8) t (wp_X1_gatherNeeds_20 G Sh (t + 8) t Q (d + 1)) Q (d2 + 1) (iI r) (t + 54 + 4 * r) (iI j) J L := by
        intro d2
        induction d2 with
        | zero =>
          intro j hj J hO h8 h7 hG
          show wb_X1_gatherNeeds_53 G Sh (t + 8) t (wp_X1_gatherNeeds_20 G Sh (t + 8) t Q (d + 1)) Q _ _ _ _ J L
          unfold wb_X1_gatherNeeds_53
          refine le_br (by rw [(hO (t + 54 + 4 * r) (by omega)).1]; exact C.1) rfl (by omega) (by omega) (fun _ x9 e9 => ?_) (fun q => absurd (by omega) q)
          rw [e9, iI_1, iI_add]
          have e2 : (U 15 r).toNat + (U 16 r).toNat = rfT U N (r + 1) := by
            unfold rfT
            split
            · rw [if_pos (by omega)] at R6
              omega
            · rw [if_neg (by omega)] at R6
              omega
          rw [show j = (U 16 r).toNat by omega] at hG
          rw [e2] at h8 hG
          exact ih (r + 1) (by omega) J hO h8 h7 hG
        | succ d2 ih2 =>
          intro j hj J hO h8 h7 hG
          show wb_X1_gatherNeeds_53 G Sh (t + 8) t (wp_X1_gatherNeeds_20 G Sh (t + 8) t Q (d + 1)) Q (wp_X1_gatherNeeds_53 G Sh (t + 8) t (wp_X1_gatherNeeds_20 G Sh (t + 8) t Q (d + 1)) Q (d2 + 1)) _ _ _ J L
          unfold wb_X1_gatherNeeds_53
          have vj : vp_in (iI (j : Int)) 24 := in_ok rfl (by omega) (by omega)
          refine le_br (by rw [(hO (t + 54 + 4 * r) (by omega)).1]; exact C.1) rfl (by omega) (by omega) (fun q => absurd q (by omega)) (fun _ => ⟨vj, vj, vj, ?_⟩)
          have D := C.2.2 j (by omega)
          have E := R.2.2.2.2.2.2 j (by omega)
          obtain ⟨f, hf⟩ : ∃ f : Nat, U 19 ((U 15 r).toNat + j) = (f : Int) := ⟨(U 19 ((U 15 r).toNat + j)).toNat, by omega⟩
          obtain ⟨s, hs⟩ : ∃ s : Nat, U 20 ((U 15 r).toNat + j) = (s : Int) := ⟨(U 20 ((U 15 r).toNat + j)).toNat, by omega⟩
          rw [nat_ok rfl (by omega), (hO (t + 54 + 4 * r + 1) (by omega)).1, (hO (t + 54 + 4 * r + 2) (by omega)).1, (hO (t + 54 + 4 * r + 3) (by omega)).1, D.1, D.2.1, D.2.2, hf, hs]
          have hg := hG f s (by omega) (by omega) (by omega) (by omega)
          have hb1 := mxB_ge (at1 (U 19) (lsT U) f s) (U 18) ((U 15 r).toNat + j)
          have hb2 := mxB_le (p := at1 (U 19) (lsT U) f s) (v := U 18) (B := 102080) (by omega) ((U 15 r).toNat + j) (fun k hk => (hE.1 k (by omega)).2.1)
          refine k_addN (by omega) (by omega) (by omega) (by omega) hg (fun J2 e2 x16 e16 => ?_)
          rw [e16, iI_1, iI_add]
          refine ih2 (j + 1) (by omega) J2 ?_ ?_ ?_ ?_
          · rw [e2]; exact hO.mu (by omega)
          · rw [e2, mu_miss (Or.inl (by omega))]; exact h8
          · rw [e2, mu_miss (Or.inl (by omega))]; exact h7
          · rw [e2]
            exact hG.add hf (by unfold lsT; omega)
      rw [nat_ok rfl (by omega)]
      refine ⟨(U 16 r).toNat + 1, inner (U 16 r).toNat 0 (by omega) J1 (by rw [e1]; exact hO.mu (by omega)) (by rw [e1, mu_hit ⟨rfl, rfl⟩]) (by rw [e1, mu_miss (Or.inr (by decide))]; exact h7) ?_⟩
      intro c s h0 h1 h2 h3
      rw [e1, mu_miss (Or.inl (by omega))]
      exact hG c s h0 h1 h2 h3
  unfold wp_X1_gatherNeeds
  refine k_clear (fun J1 f o J2 e2 => ⟨(U 13 0).toNat + 1, ?_⟩)
  rw [o (t + 1) (by omega), cp.2.2.1] at e2
  have z : rfT U N 0 = 0 := by
    unfold rfT
    split
    · rw [w5 (by omega)]
      rfl
    · have := w4 (by omega)
      omega
  refine go (U 13 0).toNat 0 (by omega) J2 ?_ ?_ ?_ ?_
  · rw [e2]
    exact OF.mu (fun a ha => ⟨o a (by omega), rfl⟩) (by omega)
  · rw [e2, mu_hit ⟨rfl, rfl⟩, z]
    rfl
  · rw [e2, mu_miss (Or.inr (by decide)), o _ (by omega)]
  · rw [z]
    intro c s h0 h1 h2 h3
    rw [e2, mu_miss (Or.inl (by omega))]
    exact f c s h1 (by omega)
end RC1
