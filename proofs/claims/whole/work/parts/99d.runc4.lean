section RC4
variable {K : Nat} {G : GX} {x m o n : Nat} {Sh : SH} {F : Nat → Option Nat} {I I0 I1 I2 : MI} {L L0 L1 L2 : ML} {tb : Nat → Nat} {T : Nat → TS} {U : TS} {b t N cols : Nat} {E : Int}
theorem ends_cl (oP : OkP U) (oR : OkR U) (hN : U 17 0 = (N : Int)) : ∀ k : Nat, k < N → U 19 k + U 20 k ≤ clT U := by
  obtain ⟨w1, w2, w3, w4, w5, w6⟩ := oR
  have key : ∀ (d r : Nat), (r : Int) + d = U 13 0 → ∀ k : Nat, rfT U N r ≤ k → k < N → U 19 k + U 20 k ≤ clT U := by
    intro d
    induction d with
    | zero =>
      intro r hr k h1 h2
      unfold rfT at h1
      rw [if_neg (by omega)] at h1
      omega
    | succ d ih =>
      intro r hr k h1 h2
      have R := w6 r (by omega)
      unfold rfT at h1
      rw [if_pos (by omega)] at h1
      by_cases q : k < (U 15 r).toNat + (U 16 r).toNat
      · have := R.2.2.2.2.2.2 (k - (U 15 r).toNat) (by omega)
        rw [show (U 15 r).toNat + (k - (U 15 r).toNat) = k by omega] at this
        omega
      · refine ih (r + 1) (by omega) k ?_ h2
        unfold rfT
        have R6 := R.2.2.2.2.2.1
        split
        · rw [if_pos (by omega)] at R6
          omega
        · rw [if_neg (by omega)] at R6
          omega
  intro k hk
  refine key (U 13 0).toNat 0 (by omega) k ?_ hk
  unfold rfT
  split
  · rw [w5 (by omega)]
    omega
  · have := w4 (by omega)
    omega
theorem mxE_cl (oP : OkP U) (oR : OkR U) (hN : U 17 0 = (N : Int)) : 0 ≤ mxE U N ∧ mxE U N ≤ clT U ∧ clT U ≤ 24 := by
  have p2 := oP.2.1
  have h1 := mxE_up U 0 N
  have h2 := mxE_row (U := U) (q := 0) (B := clT U) N (fun i hi => by rw [Nat.zero_add]; exact ends_cl oP oR hN i hi)
  have hcl : U 4 0 ≤ clT U ∧ clT U ≤ 24 := by
    unfold clT
    split <;> omega
  rw [Nat.zero_add] at h1 h2
  have e : mxE U 0 = U 4 0 := rfl
  rw [e] at h1 h2
  split at h2 <;> omega
theorem prod_rng {a c : Int} (ha : 0 ≤ a ∧ a ≤ 1000000000) (hc : 0 ≤ c ∧ c ≤ 1000000) : -4611686018427387904 ≤ a * c ∧ a * c ≤ 4611686018427387904 := by
  have h1 : 0 ≤ a * c := Int.mul_nonneg ha.1 hc.1
  have h2 : a * c ≤ 1000000000 * 1000000 := Int.mul_le_mul ha.2 hc.2 hc.1 (by omega)
  omega
theorem k_placesC {Q : MI → ML → Prop} {O sh wh : Int} (hc24 : cols ≤ 24) (hM : RnM b I U N cols) (hG : GvM b I U N cols E) (hO : I b 11 = iI O) (hOr : -1 ≤ O ∧ O ≤ 3) (hE : L b 10 = jI E) (hEr : -100000000 ≤ E ∧ E ≤ 100000000) (hg : ∀ k, k ≤ cols → (0 ≤ gvT U N E k ∧ gvT U N E k ≤ 10000) ∧ 0 ≤ goT U E k ∧ goT U E k ≤ 3) (hr : ∀ k, k < cols → 0 ≤ wdT U N k ∧ wdT U N k ≤ 400000) (hr2 : ∀ k, k ≤ cols → -10000 ≤ gwT U N k ∧ gwT U N k ≤ 10000) (hsh : 0 ≤ sh ∧ sh ≤ 1000000000) (hwh : 0 ≤ wh ∧ wh ≤ 1000000)
    (hQ : ∀ L2 : ML, (∀ a, a ≠ b + 3 → L2 a = L a) → (∀ k, k < cols → L2 (b + 3) k = jI (plT U N E O sh wh k)) → Q I L2) : wp_X1_findPlaces G Sh b (jI sh) (jI wh) I L Q := by
  have go : ∀ (d c : Nat), c + d = cols → ∀ L1 : ML, (∀ a, a ≠ b + 3 → L1 a = L a) → (∀ k, k < c → L1 (b + 3) k = jI (plT U N E O sh wh k)) → wp_X1_findPlaces_9 G Sh b (jI sh) (jI wh) Q (d + 1) (jI (xP U N c)) (jI (smT U N E O c)) (iI c) I L1 := by
    intro d
    induction d with
    | zero =>
      intro c h1 L1 h2 h3
      show wb_X1_findPlaces_9 G Sh b (jI sh) (jI wh) Q _ _ _ _ I L1
      unfold wb_X1_findPlaces_9
      exact le_br hM.1 rfl (by omega) (by omega) (fun _ => hQ L1 h2 (fun k hk => h3 k (by omega))) (fun q => absurd (by omega) q)
    | succ d ih =>
      intro c h1 L1 h2 h3
      show wb_X1_findPlaces_9 G Sh b (jI sh) (jI wh) Q (wp_X1_findPlaces_9 G Sh b (jI sh) (jI wh) Q (d + 1)) _ _ _ I L1
      unfold wb_X1_findPlaces_9
      have a1 := hr c (by omega)
      have a2 := hr2 c (by omega)
      refine le_br hM.1 rfl (by omega) (by omega) (fun q => absurd q (by omega)) (fun _ => ⟨in_ok rfl (by omega) (by omega), fun y3 e3 => ?_⟩)
      rw [nat_ok rfl (by omega), hM.2.2 c (by omega), iI_long (by omega), jI_add] at e3
      refine k_giveC (by omega) hc24 hG hO hOr hg (fun y7 e7 => ?_)
      have e7 : y7 = jI (smT U N E O (c + 1)) := by rw [e7, jI_add]; rfl
      have sr := sm_rng (U := U) (N := N) (E := E) (by_ := O) (c + 1) (fun k hk => (hg k (by omega)).1)
      have E1 : L1 b 10 = jI E := by rw [h2 b (by omega)]; exact hE
      have vc : vp_in (iI (c : Int)) 24 := in_ok rfl (by omega) (by omega)
      have f88 : ∀ v : Int64, v = jI (plT U N E O sh wh c) → wp_X1_findPlaces_88 G Sh b (jI sh) (jI wh) (wp_X1_findPlaces_9 G Sh b (jI sh) (jI wh) Q (d + 1)) Q y3 y7 (iI c) v (iI c) I L1 := by
        intro v ev
        unfold wp_X1_findPlaces_88
        rw [nat_ok rfl (by omega), (hM.2.1 c (by omega)).1, iI_long (by omega)]
        refine ⟨vc, fun L2 e2 => ⟨vc, fun y14 e14 x15 e15 => ?_⟩⟩
        rw [e14, e15, e3, e7, jI_add, iI_1, iI_add]
        refine ih (c + 1) (by omega) L2 (fun a ha => by rw [e2, mul_off ha]; exact h2 a ha) (fun k hk => ?_)
        by_cases e : k = c
        · rw [e2, mul_hit ⟨rfl, e⟩, e]; exact ev
        · rw [e2, mul_miss (Or.inr e)]
          exact h3 k (by omega)
      have f58 : ∀ v : Int64, v = jI (mvT U N E O sh wh c) → wp_X1_findPlaces_58 G Sh b (jI sh) (jI wh) (wp_X1_findPlaces_9 G Sh b (jI sh) (jI wh) Q (d + 1)) Q y3 y7 (iI c) v I L1 := by
        intro v ev
        unfold wp_X1_findPlaces_58
        refine cmpge_br E1 jI_0 (by omega) (by omega) (fun q => f88 _ ?_) (fun q => f88 _ ?_)
        · rw [e3, ev, jI_add]
          unfold plT
          rw [if_pos q]
        · rw [e3, ev, jI_sub]
          unfold plT
          rw [if_neg q]
      refine cmpeq_br rfl jI_0 (by omega) (by omega) (fun q => f58 _ ?_) (fun q => ⟨?_, f58 _ ?_⟩)
      · unfold mvT
        rw [if_pos q]
        rfl
      · rw [jI_0, jI_eq (by omega) (by omega)]
        exact q
      · rw [e7, jI_mul, jI_div (prod_rng hsh (by omega)) (by omega)]
        unfold mvT
        rw [if_neg q]
  exact ⟨cols + 1, go cols 0 (by omega) L (fun _ _ => rfl) (fun k hk => absurd hk (by omega))⟩
theorem k_shareC {Q : MI → ML → Prop} {O : Int} (hc24 : cols ≤ 24) (hM : RnM b I U N cols) (hG : GvM b I U N cols E) (hO : I b 11 = iI O) (hOr : -1 ≤ O ∧ O ≤ 3) (hE : L b 10 = jI E) (hEr : -100000000 ≤ E ∧ E ≤ 100000000) (hg : ∀ k, k ≤ cols → (0 ≤ gvT U N E k ∧ gvT U N E k ≤ 10000) ∧ 0 ≤ goT U E k ∧ goT U E k ≤ 3) (hr : ∀ k, k < cols → 0 ≤ wdT U N k ∧ wdT U N k ≤ 400000) (hr2 : ∀ k, k ≤ cols → -10000 ≤ gwT U N k ∧ gwT U N k ≤ 10000)
    (hQ : ∀ L2 : ML, (∀ a, a ≠ b + 3 → a ≠ b → L2 a = L a) → L2 b 9 = L b 9 → L2 b 10 = L b 10 → L2 b 12 = jI (abI E - shT O E (smT U N E O (cols + 1))) → (∀ k, k < cols → L2 (b + 3) k = jI (plT U N E O (shT O E (smT U N E O (cols + 1))) (smT U N E O (cols + 1)) k)) → Q I L2) : wp_X1_share G Sh b I L Q := by
  have sr := sm_rng (U := U) (N := N) (E := E) (by_ := O) (cols + 1) (fun k hk => (hg k (by omega)).1)
  generalize hwh : smT U N E O (cols + 1) = wh at *
  have ab : 0 ≤ abI E ∧ abI E ≤ 100000000 := by
    unfold abI
    split <;> omega
  unfold wp_X1_share
  refine k_wholeC hc24 hM.1 hG hO hOr hg (fun y4 e4 => ?_)
  rw [hwh]
  have e4 : y4 = jI (abI E) := by
    rw [e4, hE, jI_0]
    unfold abI
    by_cases c : 0 < E
    · rw [if_pos ((jI_lt (by omega) (by omega)).mpr c), if_pos c]
    · rw [if_neg (fun h => c ((jI_lt (by omega) (by omega)).mp h)), if_neg c, jI_neg]
  have f53 : ∀ v : Int64, v = jI (shT O E wh) → wp_X1_share_53 G Sh b Q (jI wh) y4 v I L := by
    intro v ev
    have hs : 0 ≤ shT O E wh ∧ shT O E wh ≤ 100000000 := by
      unfold shT
      split
      · omega
      · split
        · split <;> omega
        · omega
    unfold wp_X1_share_53
    intro L9 e9
    rw [ev, e4, jI_sub] at e9
    rw [ev]
    refine k_placesC (L := L9) (E := E) hc24 hM hG hO hOr (by rw [e9, mul_miss (Or.inr (by decide))]; exact hE) hEr hg hr hr2 (by omega) (by omega) (fun L2 o2 p2 => hQ L2 (fun a h1 h2 => by rw [o2 a h1, e9, mul_off h2]) ?_ ?_ ?_ p2)
    · rw [o2 b (by omega), e9, mul_miss (Or.inr (by decide))]
    · rw [o2 b (by omega), e9, mul_miss (Or.inr (by decide))]
    · rw [o2 b (by omega), e9, mul_hit ⟨rfl, rfl⟩]
  refine eq_br hO iI_m1 (by omega) (by omega) (fun q => f53 _ ?_) (fun q => eq_br hO iI_0 (by omega) (by omega) (fun q2 => cmpge_br hE jI_0 (by omega) (by omega) (fun q3 => f53 _ ?_) (fun q3 y8 e8 => f53 _ ?_)) (fun q2 => f53 _ ?_))
  · unfold shT
    rw [if_pos q]
    rfl
  · unfold shT
    rw [if_neg q, if_neg (by omega)]
    exact e4
  · unfold shT
    rw [if_neg q, if_pos (by omega), e8, e4]
    by_cases c : wh < abI E
    · rw [if_pos ((jI_lt (by omega) (by omega)).mpr c), if_pos c]
    · rw [if_neg (fun h => c ((jI_lt (by omega) (by omega)).mp h)), if_neg c]
  · unfold shT
    rw [if_neg q, if_neg (by omega)]
    exact e4
/-- what a run leaves in the class's cells -/
def exT (way by_ nat : Int) : Int := if way = 0 then 0 else if way = 1 then by_ - nat else by_
theorem nat_rng (hr : ∀ k, k < cols → 0 ≤ wdT U N k ∧ wdT U N k ≤ 400000) (hr2 : ∀ k, k ≤ cols → -10000 ≤ gwT U N k ∧ gwT U N k ≤ 10000) : ∀ c, c ≤ cols → -10000 * ((c : Int) + 1) ≤ natP U N c ∧ natP U N c ≤ 410000 * ((c : Int) + 1)
  | 0, _ => by
    have := hr2 0 (by omega)
    show -10000 * ((0 : Nat) + 1 : Int) ≤ gwT U N 0 ∧ gwT U N 0 ≤ 410000 * (((0 : Nat) : Int) + 1)
    omega
  | c + 1, h => by
    have h1 := nat_rng hr hr2 c (by omega)
    have h2 := hr c (by omega)
    have h3 := hr2 (c + 1) (by omega)
    show _ ≤ natP U N c + (wdT U N c + gwT U N (c + 1)) ∧ natP U N c + (wdT U N c + gwT U N (c + 1)) ≤ _
    omega
theorem k_setTable {Q : Int64 → MI → ML → Prop} {way by_ : Int} (hC : RC U t I L) (hok : Ok K U) (h3 : U 3 0 = 1) (hT : isTable G Sh t) (hN : U 17 0 = (N : Int)) (hcols : mxE U N = (cols : Int)) (hw : 0 ≤ way ∧ way ≤ 2) (hb : -2147483648 ≤ by_ ∧ by_ < 2147483648) (hb2 : way = 0 ∨ -1000000 ≤ by_ ∧ by_ ≤ 1000000)
    (hQ : ∀ (J : MI) (L2 : ML) (E O wh : Int), E = exT way by_ (natP U N cols) → O = orT U N cols E → wh = smT U N E O (cols + 1) → OF (t + 8) I L J L2 → J (t + 8) 7 = iI (U 24 0 + 1) → J (t + 8) 8 = iI cols → J (t + 8) 11 = iI O → L2 (t + 8) 9 = jI (natP U N cols) → L2 (t + 8) 10 = jI E → L2 (t + 8) 12 = jI (abI E - shT O E wh) → (∀ k, k < cols → J (t + 8 + 1) k = iI (wdT U N k) ∧ J (t + 8 + 2) k = iI (vdT U N k) ∧ L2 (t + 8 + 3) k = jI (plT U N E O (shT O E wh) wh k)) → Q (jI (natP U N cols + E)) J L2) : wp_X1_setTable G Sh (t + 8) t (iI way) (iI by_) I L Q := by
  obtain ⟨oP, oG, oR, oI, oN⟩ := id hok
  obtain ⟨cp, cg, cr, ci, cn⟩ := id hC
  have mc := mxE_cl oP oR hN
  have hE := EnOk_of oP oR hN
  have hc24 : cols ≤ 24 := by omega
  have hcl : (cols : Int) ≤ clT U := by omega
  have p2 := oP.2.1
  have hgl : ∀ c : Nat, c < cols → -10000 ≤ glT U c ∧ glT U c ≤ 10000 := fun c hc => gl_rng oG (by have := tOf_lt oP (U := U) (c := c) (by omega) h3; omega)
  have hr : ∀ k, k < cols → 0 ≤ wdT U N k ∧ wdT U N k ≤ 400000 := fun k hk => by
    obtain ⟨r1, r2, r3, r4⟩ := run_rng hE.1 hgl k (by omega)
    unfold wdT
    split <;> omega
  have hr2 : ∀ k, k ≤ cols → -10000 ≤ gwT U N k ∧ gwT U N k ≤ 10000 := fun k hk => by
    unfold gwT
    split
    · have := oG 0 (by omega)
      omega
    · split
      · omega
      · exact hgl (k - 1) (by omega)
  have hnr := nat_rng hr hr2 cols (Nat.le_refl _)
  have hg : ∀ (E : Int) k, k ≤ cols → (0 ≤ gvT U N E k ∧ gvT U N E k ≤ 10000) ∧ 0 ≤ goT U E k ∧ goT U E k ≤ 3 := fun E k hk => gi_rng oG oP h3 (by omega) E N
  unfold wp_X1_setTable
  refine k_gatherNeeds cp cr oP oR hN (fun J1 o1 c8 c7 hG1 => ?_)
  rw [hcols] at c8
  refine k_findWidthsC (J0 := I) hC oP oG h3 hT hE.1 hgl hcl hc24 o1 c8 hG1 (fun J2 o2 d8 d7 dW dV => ?_)
  have hM2 : RnM (t + 8) J2 U N cols := ⟨d8, dW, dV⟩
  refine k_naturalC hc24 hM2 hr hr2 (fun L10 e10 => ?_)
  have hO2 : OF (t + 8) I L J2 L10 := by rw [e10]; exact o2.mul (by omega)
  have f44 : ∀ v : Int64, v = jI (exT way by_ (natP U N cols)) → wp_X1_setTable_44 G Sh (t + 8) t (iI way) (iI by_) Q v J2 L10 := by
    intro v ev
    have hEr : -100000000 ≤ exT way by_ (natP U N cols) ∧ exT way by_ (natP U N cols) ≤ 100000000 := by
      unfold exT
      split
      · omega
      · split <;> omega
    generalize hE2 : exT way by_ (natP U N cols) = E at *
    unfold wp_X1_setTable_44
    intro L13 e13
    have eE : L13 (t + 8) 10 = jI E := by rw [e13, mul_hit ⟨rfl, rfl⟩]; exact ev
    have e9 : L13 (t + 8) 9 = jI (natP U N cols) := by rw [e13, mul_miss (Or.inr (by decide)), e10, mul_hit ⟨rfl, rfl⟩]
    have hO3 : OF (t + 8) I L J2 L13 := by rw [e13]; exact hO2.mul (by omega)
    refine k_gatherGivesC (J0 := I) (L0 := L) ⟨cp, cg⟩ oP oG h3 hT hcl hc24 hO3 hM2 eE hEr (fun J3 o3 hM3 s3 hG3 => ?_)
    refine k_orderC hc24 hM3.1 hG3 eE hEr (hg E) (fun J4 e4 => ?_)
    have hOr : -1 ≤ orT U N cols E ∧ orT U N cols E ≤ 3 := by
      unfold orT
      split
      · omega
      · exact or_rng (fun k hk => (hg E k hk).2) (cols + 1) (Nat.le_refl _)
    have n4 : ∀ a k : Nat, a ≠ t + 8 → J4 a k = J3 a k := fun a k ha => by rw [e4, mu_miss (Or.inl ha)]
    have hM4 : RnM (t + 8) J4 U N cols := ⟨by rw [e4, mu_miss (Or.inr (by decide))]; exact hM3.1, fun k hk => by rw [n4 _ _ (by omega), n4 _ _ (by omega)]; exact hM3.2.1 k hk, fun k hk => by rw [n4 _ _ (by omega)]; exact hM3.2.2 k hk⟩
    have hG4 : GvM (t + 8) J4 U N cols E := fun k hk => by rw [n4 _ _ (by omega), n4 _ _ (by omega)]; exact hG3 k hk
    have h11 : J4 (t + 8) 11 = iI (orT U N cols E) := by rw [e4, mu_hit ⟨rfl, rfl⟩]
    refine k_shareC hc24 hM4 hG4 h11 hOr eE hEr (hg E) hr hr2 (fun L5 o5 m9 m10 m12 mP J6 e6 => ?_)
    have h7 : J4 (t + 8) 7 = iI (U 24 0) := by rw [e4, mu_miss (Or.inr (by decide)), s3, d7, c7]; exact cn.1
    rw [h7, iI_1, iI_add] at e6
    unfold wp_X1_setWidth
    rw [m9, m10, e9, eE, jI_add]
    have n6 : ∀ a k : Nat, a ≠ t + 8 → J6 a k = J4 a k := fun a k ha => by rw [e6, mu_miss (Or.inl ha)]
    refine hQ J6 L5 E (orT U N cols E) (smT U N E (orT U N cols E) (cols + 1)) rfl rfl rfl ?_ ?_ ?_ ?_ ?_ ?_ m12 (fun k hk => ?_)
    · rw [e6, e4]
      intro a ha
      rw [mu_off (by omega), mu_off (by omega), o5 a (by omega) (by omega)]
      exact o3 a ha
    · rw [e6, mu_hit ⟨rfl, rfl⟩]
    · rw [e6, mu_miss (Or.inr (by decide))]; exact hM4.1
    · rw [e6, mu_miss (Or.inr (by decide))]; exact h11
    · rw [m9]; exact e9
    · rw [m10]; exact eE
    · rw [n6 _ _ (by omega), n6 _ _ (by omega)]
      exact ⟨(hM4.2.1 k hk).1, (hM4.2.1 k hk).2, mP k hk⟩
  refine eq_br rfl iI_0 (by omega) (by omega) (fun q => f44 _ ?_) (fun q => eq_br rfl iI_1 (by omega) (by omega) (fun q2 => f44 _ ?_) (fun q2 => f44 _ ?_))
  · unfold exT
    rw [if_pos q]
    rfl
  · unfold exT
    rw [if_neg q, if_pos q2, iI_long hb, e10, mul_hit ⟨rfl, rfl⟩, jI_sub]
  · unfold exT
    rw [if_neg q, if_neg q2, iI_long hb]
end RC4
