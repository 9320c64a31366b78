section RC3
variable {K : Nat} {G : GX} {x m o n : Nat} {Sh : SH} {F : Nat → Option Nat} {I I0 I1 I2 : MI} {L L0 L1 L2 : ML} {tb : Nat → Nat} {T : Nat → TS} {U : TS} {b t N cols : Nat} {E : Int}
def natP (U : TS) (N : Nat) : Nat → Int
  | 0 => gwT U N 0
  | c + 1 => natP U N c + (wdT U N c + gwT U N (c + 1))
def gvT (U : TS) (N : Nat) (E : Int) (i : Nat) : Int := if 0 < i ∧ wT U N (i - 1) < 0 then 0 else if 0 < E then U 9 (giT U i) else U 11 (giT U i)
def goT (U : TS) (E : Int) (i : Nat) : Int := if 0 < E then U 10 (giT U i) else U 12 (giT U i)
def smT (U : TS) (N : Nat) (E by_ : Int) : Nat → Int
  | 0 => 0
  | k + 1 => smT U N E by_ k + (if goT U E k = by_ then gvT U N E k else 0)
def orP (U : TS) (N : Nat) (E : Int) : Nat → Int
  | 0 => -1
  | i + 1 => if gvT U N E i = 0 then orP U N E i else if orP U N E i < goT U E i then goT U E i else orP U N E i
def orT (U : TS) (N cols : Nat) (E : Int) : Int := if E = 0 then -1 else orP U N E (cols + 1)
def abI (E : Int) : Int := if 0 < E then E else -E
def shT (O E wh : Int) : Int := if O = -1 then 0 else if O = 0 ∧ E < 0 then (if wh < abI E then wh else abI E) else abI E
def xP (U : TS) (N : Nat) : Nat → Int
  | 0 => 0
  | c + 1 => xP U N c + gwT U N c + wdT U N c
def mvT (U : TS) (N : Nat) (E O sh wh : Int) (c : Nat) : Int := if wh = 0 then 0 else (sh * smT U N E O (c + 1)).tdiv wh
def plT (U : TS) (N : Nat) (E O sh wh : Int) (c : Nat) : Int := if 0 ≤ E then xP U N c + gwT U N c + mvT U N E O sh wh c else xP U N c + gwT U N c - mvT U N E O sh wh c
theorem jI_div {a b : Int} (ha : -4611686018427387904 ≤ a ∧ a ≤ 4611686018427387904) (hb : -4611686018427387904 ≤ b ∧ b ≤ 4611686018427387904) : jI a / jI b = jI (a.tdiv b) := by
  have h1 : (a.tdiv b).natAbs ≤ a.natAbs := by
    rw [Int.natAbs_tdiv]
    exact Nat.div_le_self _ _
  rw [← Int64.toInt_inj, Int64.toInt_div, jI_toInt (by omega), jI_toInt (by omega), jI_toInt (by omega)]
  exact fb_bmodL (by omega) (by omega)
theorem cmple_br {p q : Int64} {a b : Int} {A B : Prop} (hp : p = jI a) (hq : q = jI b) (ha : -9223372036854775808 ≤ a ∧ a < 9223372036854775808) (hb : -9223372036854775808 ≤ b ∧ b < 9223372036854775808) (k1 : a ≤ b → A) (k0 : ¬ a ≤ b → B) : (lg_cmp p q ≤ 0 → A) ∧ (¬ lg_cmp p q ≤ 0 → B) := by
  rw [hp, hq, lg_cmp_le, jI_le ha hb]
  exact ⟨k1, k0⟩
theorem cmpge_br {p q : Int64} {a b : Int} {A B : Prop} (hp : p = jI a) (hq : q = jI b) (ha : -9223372036854775808 ≤ a ∧ a < 9223372036854775808) (hb : -9223372036854775808 ≤ b ∧ b < 9223372036854775808) (k1 : b ≤ a → A) (k0 : ¬ b ≤ a → B) : (0 ≤ lg_cmp p q → A) ∧ (¬ 0 ≤ lg_cmp p q → B) := by
  rw [hp, hq, lg_cmp_ge, jI_le hb ha]
  exact ⟨k1, k0⟩
theorem cmpeq_br {p q : Int64} {a b : Int} {A B : Prop} (hp : p = jI a) (hq : q = jI b) (ha : -9223372036854775808 ≤ a ∧ a < 9223372036854775808) (hb : -9223372036854775808 ≤ b ∧ b < 9223372036854775808) (k1 : a = b → A) (k0 : ¬ a = b → B) : (lg_cmp p q = 0 → A) ∧ (¬ lg_cmp p q = 0 → B) := by
  rw [hp, hq, lg_cmp_eq, jI_eq ha hb]
  exact ⟨k1, k0⟩
theorem gi_rng (oG : OkG U) (oP : OkP U) (h3 : U 3 0 = 1) {p : Nat} (hp : p = 0 ∨ (p : Int) - 1 < clT U) (E : Int) (N : Nat) : (0 ≤ gvT U N E p ∧ gvT U N E p ≤ 10000) ∧ 0 ≤ goT U E p ∧ goT U E p ≤ 3 := by
  have h := oG (giT U p) (giT_lt oP h3 hp)
  constructor
  · unfold gvT
    split
    · omega
    · split <;> omega
  · unfold goT
    split <;> omega
theorem sm_rng {by_ : Int} : ∀ p : Nat, (∀ k, k < p → 0 ≤ gvT U N E k ∧ gvT U N E k ≤ 10000) → 0 ≤ smT U N E by_ p ∧ smT U N E by_ p ≤ 10000 * p
  | 0, _ => by
    show (0 : Int) ≤ 0 ∧ (0 : Int) ≤ 10000 * ((0 : Nat) : Int)
    omega
  | p + 1, h => by
    have h1 := sm_rng (by_ := by_) p (fun k hk => h k (by omega))
    have h2 := h p (by omega)
    show 0 ≤ smT U N E by_ p + (if goT U E p = by_ then gvT U N E p else 0) ∧ smT U N E by_ p + (if goT U E p = by_ then gvT U N E p else 0) ≤ _
    split <;> omega
theorem sm_le {by_ : Int} (h : ∀ k, 0 ≤ gvT U N E k ∨ True) (p : Nat) : ∀ d : Nat, (∀ k, k < p + d → 0 ≤ gvT U N E k) → smT U N E by_ p ≤ smT U N E by_ (p + d)
  | 0, _ => Int.le_refl _
  | d + 1, h2 => by
    have h1 := sm_le (by_ := by_) h p d (fun k hk => h2 k (by omega))
    have h3 := h2 (p + d) (by omega)
    show _ ≤ smT U N E by_ (p + d) + (if goT U E (p + d) = by_ then gvT U N E (p + d) else 0)
    split <;> omega
/-- what the later steps read -/
def RnM (b : Nat) (J : MI) (U : TS) (N cols : Nat) : Prop := J b 8 = iI cols ∧ (∀ k, k < cols → J (b + 1) k = iI (wdT U N k) ∧ J (b + 2) k = iI (vdT U N k)) ∧ ∀ k, k ≤ cols → J (b + 4) k = iI (gwT U N k)
def GvM (b : Nat) (J : MI) (U : TS) (N cols : Nat) (E : Int) : Prop := ∀ k, k ≤ cols → J (b + 5) k = iI (gvT U N E k) ∧ J (b + 6) k = iI (goT U E k)
theorem k_naturalC {Q : Int64 → MI → ML → Prop} (hc24 : cols ≤ 24) (hM : RnM b I U N cols) (hr : ∀ k, k < cols → 0 ≤ wdT U N k ∧ wdT U N k ≤ 400000) (hr2 : ∀ k, k ≤ cols → -10000 ≤ gwT U N k ∧ gwT U N k ≤ 10000) (hQ : Q (jI (natP U N cols)) I L) : wp_X1_naturalWidth G Sh b I L Q := by
  have go : ∀ (d c : Nat), c + d = cols → wp_X1_naturalWidth_10 G Sh b Q (d + 1) (jI (natP U N c)) (iI c) I L := by
    intro d
    induction d with
    | zero =>
      intro c h1
      show wb_X1_naturalWidth_10 G Sh b Q _ _ _ I L
      unfold wb_X1_naturalWidth_10
      exact le_br hM.1 rfl (by omega) (by omega) (fun _ => by rw [show c = cols by omega]; exact hQ) (fun q => absurd (by omega) q)
    | succ d ih =>
      intro c h1
      show wb_X1_naturalWidth_10 G Sh b Q (wp_X1_naturalWidth_10 G Sh b Q (d + 1)) _ _ I L
      unfold wb_X1_naturalWidth_10
      refine le_br hM.1 rfl (by omega) (by omega) (fun q => absurd q (by omega)) (fun _ => ⟨in_ok rfl (by omega) (by omega), fun x5 e5 => ?_⟩)
      have e5 : x5 = iI ((c + 1 : Nat) : Int) := by rw [e5, iI_1, iI_add]; rfl
      have h2 := hr c (by omega)
      have h3 := hr2 (c + 1) (by omega)
      refine ⟨in_ok e5 (by omega) (by omega), fun y7 e7 x8 e8 => ?_⟩
      rw [nat_ok rfl (by omega), nat_ok e5 (by omega), (hM.2.1 c (by omega)).1, hM.2.2 (c + 1) (by omega), iI_add, iI_long (by omega), jI_add] at e7
      rw [e7, e8, iI_1, iI_add]
      exact ih (c + 1) (by omega)
  have h0 := hr2 0 (by omega)
  refine ⟨in_ok (k := 0) rfl (by omega) (by omega), fun y2 e2 => ⟨cols + 1, ?_⟩⟩
  rw [show ((0 : Int32)).toNatClampNeg = 0 from rfl, hM.2.2 0 (by omega), iI_long (by omega)] at e2
  rw [e2]
  exact go cols 0 (by omega)
theorem k_gatherGivesC {J0 : MI} {Q : MI → ML → Prop} (hC : RCp U t J0 ∧ RCg U t J0) (oP : OkP U) (oG : OkG U) (h3 : U 3 0 = 1) (hT : isTable G Sh t) (hcols : (cols : Int) ≤ clT U) (hc24 : cols ≤ 24) (hO : OF (t + 8) J0 L0 I L) (hM : RnM (t + 8) I U N cols) (hE : L (t + 8) 10 = jI E) (hEr : -100000000 ≤ E ∧ E ≤ 100000000)
    (hQ : ∀ J : MI, OF (t + 8) J0 L0 J L → RnM (t + 8) J U N cols → (∀ k, J (t + 8) k = I (t + 8) k) → GvM (t + 8) J U N cols E → Q J L) : wp_X1_gatherGives G Sh (t + 8) t I L Q := by
  obtain ⟨cp, cg⟩ := hC
  have pre : ∀ J : MI, OF (t + 8) J0 L0 J L → RCp U t J := fun J h => cp.cong (fun _ _ _ => rfl) (fun a _ _ => (h a (by omega)).1)
  have hsg := hT.2.2.2.2.2.2.1
  have go : ∀ (d i : Nat), i + d = cols + 1 → ∀ J : MI, OF (t + 8) J0 L0 J L → RnM (t + 8) J U N cols → (∀ k, J (t + 8) k = I (t + 8) k) → (∀ k, k < i → J (t + 8 + 5) k = iI (gvT U N E k) ∧ J (t + 8 + 6) k = iI (goT U E k)) → wp_X1_gatherGives_2 G Sh (t + 8) t Q (d + 1) (iI i) J L := by
    intro d
    induction d with
    | zero =>
      intro i h1 J h2 h4 h5 h6
      show wb_X1_gatherGives_2 G Sh (t + 8) t Q _ _ J L
      unfold wb_X1_gatherGives_2
      exact lt_br h4.1 rfl (by omega) (by omega) (fun _ => hQ J h2 h4 h5 (fun k hk => h6 k (by omega))) (fun q => absurd (by omega) q)
    | succ d ih =>
      intro i h1 J h2 h4 h5 h6
      show wb_X1_gatherGives_2 G Sh (t + 8) t Q (wp_X1_gatherGives_2 G Sh (t + 8) t Q (d + 1)) _ J L
      unfold wb_X1_gatherGives_2
      refine lt_br h4.1 rfl (by omega) (by omega) (fun q => absurd q (by omega)) (fun _ => ?_)
      have hp : i = 0 ∨ (i : Int) - 1 < clT U := by omega
      have hgi := giT_lt oP h3 hp
      have vi : vp_in (iI (i : Int)) 25 := in_ok rfl (by omega) (by omega)
      have ni : (iI (i : Int)).toNatClampNeg = i := nat_ok rfl (by omega)
      have gl : ∀ J2 : MI, OF (t + 8) J0 L0 J2 L → J2 (t + 41 + giT U i) 1 = iI (U 9 (giT U i)) ∧ J2 (t + 41 + giT U i) 2 = iI (U 10 (giT U i)) ∧ J2 (t + 41 + giT U i) 3 = iI (U 11 (giT U i)) ∧ J2 (t + 41 + giT U i) 4 = iI (U 12 (giT U i)) := fun J2 h => by rw [(h _ (by omega)).1]; exact (cg _ hgi).2
      have f72 : ∀ v : Int32, v = iI (gvT U N E i) → wp_X1_gatherGives_72 G Sh (t + 8) t (wp_X1_gatherGives_2 G Sh (t + 8) t Q (d + 1)) Q (iI i) (t + 41 + giT U i) v (iI i) J L := by
        intro v ev
        unfold wp_X1_gatherGives_72
        rw [ni]
        refine ⟨vi, fun J1 e1 => ?_⟩
        have o1 : OF (t + 8) J0 L0 J1 L := by rw [e1]; exact h2.mu (by omega)
        have fin : ∀ (w : Int32) (J2 : MI) (x : Int32), w = iI (goT U E i) → J2 = mu J1 (t + 8 + 6) i w → x = iI i + 1 → wp_X1_gatherGives_2 G Sh (t + 8) t Q (d + 1) x J2 L := by
          intro w J2 x ew e2 ex
          rw [ex, iI_1, iI_add]
          have nn : ∀ a k : Nat, a < t + 8 + 5 → J2 a k = J a k := fun a k ha => by rw [e2, mu_miss (Or.inl (by omega)), e1, mu_miss (Or.inl (by omega))]
          refine ih (i + 1) (by omega) J2 (by rw [e2]; exact o1.mu (by omega)) ?_ (fun k => by rw [nn _ _ (by omega)]; exact h5 k) (fun k hk => ?_)
          · refine ⟨by rw [nn _ _ (by omega)]; exact h4.1, fun k hk => by rw [nn _ _ (by omega), nn _ _ (by omega)]; exact h4.2.1 k hk, fun k hk => by rw [nn _ _ (by omega)]; exact h4.2.2 k hk⟩
          · by_cases e : k = i
            · rw [e]
              exact ⟨by rw [e2, mu_miss (Or.inl (by omega)), e1, mu_hit ⟨rfl, rfl⟩]; exact ev, by rw [e2, mu_hit ⟨rfl, rfl⟩]; exact ew⟩
            · rw [e2, mu_miss (Or.inl (by omega)), mu_miss (Or.inr e), e1, mu_miss (Or.inr e), mu_miss (Or.inl (by omega))]
              exact h6 k (by omega)
        refine cmple_br hE jI_0 (by omega) (by omega) (fun q => ⟨vi, fun J2 e2 x e => fin _ J2 x ?_ e2 e⟩) (fun q => ⟨vi, fun J2 e2 x e => fin _ J2 x ?_ e2 e⟩)
        · rw [(gl J1 o1).2.2.2]
          unfold goT
          rw [if_neg (by omega)]
        · rw [(gl J1 o1).2.1]
          unfold goT
          rw [if_pos (by omega)]
      have f35 : ¬ (0 < i ∧ wT U N (i - 1) < 0) → wp_X1_gatherGives_35 G Sh (t + 8) t (wp_X1_gatherGives_2 G Sh (t + 8) t Q (d + 1)) Q (iI i) (t + 41 + giT U i) J L := by
        intro hv
        unfold wp_X1_gatherGives_35 wp_X1_gatherGives_36
        refine br_y rfl (cmple_br hE jI_0 (by omega) (by omega) (fun q => f72 _ ?_) (fun q => f72 _ ?_))
        · rw [(gl J h2).2.2.1]
          unfold gvT
          rw [if_neg hv, if_neg (by omega)]
        · rw [(gl J h2).1]
          unfold gvT
          rw [if_neg hv, if_pos (by omega)]
      refine k_glueAt (pre J h2) oP h3 hp (by omega) ⟨_, rfl, hsg _ hgi, ?_⟩
      refine le_br rfl iI_0 (by omega) (by omega) (fun q => f35 (by omega)) (fun q x7 e7 => ?_)
      have e7 : x7 = iI ((i - 1 : Nat) : Int) := by rw [e7, iI_1, iI_sub]; congr 1; omega
      refine ⟨in_ok e7 (by omega) (by omega), ?_⟩
      rw [nat_ok e7 (by omega)]
      have hv01 : vdT U N (i - 1) = 0 ∨ vdT U N (i - 1) = 1 := by
        unfold vdT
        split <;> omega
      refine eq_br (h4.2.1 (i - 1) (by omega)).2 iI_0 (by omega) (by omega) (fun z => f35 (fun hv => ?_)) (fun z => ?_)
      · unfold vdT at z
        rw [if_pos hv.2] at z
        omega
      · unfold wp_X1_gatherGives_36
        refine br_n (by decide) (f72 _ ?_)
        unfold gvT
        unfold vdT at z
        split at z
        · rename_i hv
          rw [if_pos ⟨by omega, hv⟩]
          rfl
        · omega
  exact ⟨cols + 2, go (cols + 1) 0 (by omega) I hO hM (fun _ => rfl) (fun k hk => absurd hk (by omega))⟩
theorem or_rng (hg : ∀ k, k ≤ cols → 0 ≤ goT U E k ∧ goT U E k ≤ 3) : ∀ i, i ≤ cols + 1 → -1 ≤ orP U N E i ∧ orP U N E i ≤ 3
  | 0, _ => by
    show (-1 : Int) ≤ -1 ∧ (-1 : Int) ≤ 3
    omega
  | i + 1, h => by
    have h1 := or_rng hg i (by omega)
    have h2 := hg i (by omega)
    show -1 ≤ (if gvT U N E i = 0 then orP U N E i else if orP U N E i < goT U E i then goT U E i else orP U N E i) ∧ (if gvT U N E i = 0 then orP U N E i else if orP U N E i < goT U E i then goT U E i else orP U N E i) ≤ 3
    split
    · exact h1
    · split <;> omega
theorem k_orderC {Q : Int32 → MI → ML → Prop} (hc24 : cols ≤ 24) (h8 : I b 8 = iI cols) (hG : GvM b I U N cols E) (hE : L b 10 = jI E) (hEr : -100000000 ≤ E ∧ E ≤ 100000000) (hg : ∀ k, k ≤ cols → (0 ≤ gvT U N E k ∧ gvT U N E k ≤ 10000) ∧ 0 ≤ goT U E k ∧ goT U E k ≤ 3) (hQ : Q (iI (orT U N cols E)) I L) : wp_X1_greatestOrder G Sh b I L Q := by
  unfold orT at hQ
  have go : ∀ (d i : Nat), i + d = cols + 1 → wp_X1_greatestOrder_4 G Sh b Q (d + 1) (iI (if E = 0 then -1 else orP U N E i)) (iI i) I L := by
    intro d
    induction d with
    | zero =>
      intro i h1
      show wb_X1_greatestOrder_4 G Sh b Q _ _ _ I L
      unfold wb_X1_greatestOrder_4
      exact lt_br h8 rfl (by omega) (by omega) (fun _ => by rw [show i = cols + 1 by omega]; exact hQ) (fun q => absurd (by omega) q)
    | succ d ih =>
      intro i h1
      show wb_X1_greatestOrder_4 G Sh b Q (wp_X1_greatestOrder_4 G Sh b Q (d + 1)) _ _ I L
      unfold wb_X1_greatestOrder_4
      have hgi := hg i (by omega)
      have hor := or_rng (U := U) (N := N) (fun k hk => (hg k hk).2) i (by omega)
      have vi : vp_in (iI (i : Int)) 25 := in_ok rfl (by omega) (by omega)
      refine lt_br h8 rfl (by omega) (by omega) (fun q => absurd q (by omega)) (fun _ => ?_)
      refine cmpeq_br hE jI_0 (by omega) (by omega) (fun z => ?_) (fun z => ⟨vi, ?_⟩)
      · rw [if_pos z] at hQ ⊢
        exact hQ
      · rw [nat_ok rfl (by omega), (hG i (by omega)).1, (hG i (by omega)).2]
        have ih1 := ih (i + 1) (by omega)
        rw [if_neg z] at ih1 ⊢
        refine eq_br rfl iI_0 (by omega) (by omega) (fun y x5 e5 => ?_) (fun y => ⟨vi, fun x7 e7 x8 e8 => ?_⟩)
        · rw [e5, iI_1, iI_add]
          unfold orP at ih1
          rw [if_pos y] at ih1
          exact ih1
        · have e7 : x7 = iI (if orP U N E i < goT U E i then goT U E i else orP U N E i) := by
            rw [e7]
            by_cases c : orP U N E i < goT U E i
            · rw [if_pos ((iI_lt (by omega) (by omega)).mpr c), if_pos c]
            · rw [if_neg (fun h => c ((iI_lt (by omega) (by omega)).mp h)), if_neg c]
          rw [e7, e8, iI_1, iI_add]
          unfold orP at ih1
          rw [if_neg y] at ih1
          exact ih1
  refine ⟨cols + 2, ?_⟩
  have := go (cols + 1) 0 (by omega)
  rw [show (if E = 0 then (-1 : Int) else orP U N E 0) = -1 by split <;> rfl, ← iI_m1] at this
  exact this
theorem k_giveC {Q : Int64 → MI → ML → Prop} {i : Nat} {O : Int} (hi : i ≤ cols) (hc24 : cols ≤ 24) (hG : GvM b I U N cols E) (hO : I b 11 = iI O) (hOr : -1 ≤ O ∧ O ≤ 3) (hg : ∀ k, k ≤ cols → (0 ≤ gvT U N E k ∧ gvT U N E k ≤ 10000) ∧ 0 ≤ goT U E k ∧ goT U E k ≤ 3) (hQ : Q (jI (if goT U E i = O then gvT U N E i else 0)) I L) : wp_X1_giveOf G Sh b (iI i) I L Q := by
  have hgi := hg i hi
  have vi : vp_in (iI (i : Int)) 25 := in_ok rfl (by omega) (by omega)
  unfold wp_X1_giveOf
  rw [nat_ok rfl (by omega), (hG i hi).1, (hG i hi).2, hO, iI_long (by omega)]
  refine ⟨vi, eq_br rfl rfl (by omega) (by omega) (fun q => ⟨vi, ?_⟩) (fun q => ?_)⟩
  · rw [if_pos q] at hQ; exact hQ
  · rw [if_neg q] at hQ; exact hQ
theorem k_wholeC {Q : Int64 → MI → ML → Prop} {O : Int} (hc24 : cols ≤ 24) (h8 : I b 8 = iI cols) (hG : GvM b I U N cols E) (hO : I b 11 = iI O) (hOr : -1 ≤ O ∧ O ≤ 3) (hg : ∀ k, k ≤ cols → (0 ≤ gvT U N E k ∧ gvT U N E k ≤ 10000) ∧ 0 ≤ goT U E k ∧ goT U E k ≤ 3) (hQ : Q (jI (smT U N E O (cols + 1))) I L) : wp_X1_wholeSum G Sh b I L Q := by
  have go : ∀ (d i : Nat), i + d = cols + 1 → wp_X1_wholeSum_4 G Sh b Q (d + 1) (jI (smT U N E O i)) (iI i) I L := by
    intro d
    induction d with
    | zero =>
      intro i h1
      show wb_X1_wholeSum_4 G Sh b Q _ _ _ I L
      unfold wb_X1_wholeSum_4
      exact lt_br h8 rfl (by omega) (by omega) (fun _ => by rw [show i = cols + 1 by omega]; exact hQ) (fun q => absurd (by omega) q)
    | succ d ih =>
      intro i h1
      show wb_X1_wholeSum_4 G Sh b Q (wp_X1_wholeSum_4 G Sh b Q (d + 1)) _ _ I L
      unfold wb_X1_wholeSum_4
      refine lt_br h8 rfl (by omega) (by omega) (fun q => absurd q (by omega)) (fun _ => ?_)
      refine k_giveC (by omega) hc24 hG hO hOr hg (fun y5 e5 x6 e6 => ?_)
      rw [e5, e6, jI_add, iI_1, iI_add]
      exact ih (i + 1) (by omega)
  exact ⟨cols + 2, go (cols + 1) 0 (by omega)⟩
end RC3
