section RC2
variable {K : Nat} {G : GX} {x m o n : Nat} {Sh : SH} {F : Nat → Option Nat} {I I0 I1 I2 : MI} {L L1 L2 : ML} {tb : Nat → Nat} {T : Nat → TS} {U : TS} {b t N : Nat}
theorem k_moveOn {c : Nat} {Q : MI → ML → Prop} (hc : c < 24) (hE : EnOk U N) {M : Nat} (hcM : c < M) (hg : ∀ c : Nat, c < M → -10000 ≤ glT U c ∧ glT U c ≤ 10000) (hG : GrM b I U N (frT U N c) (ndT U N c) c) (hQ : ∀ J : MI, (∀ a : Nat, a < b + 9 ∨ b + 33 ≤ a → J a = I a) → GrM b J U N (frT U N (c + 1)) (ndT U N (c + 1)) (c + 1) → Q J L) : wp_X2_moveOn G Sh (b + 7) (iI c) (iI (leT U N c)) I L Q := by
  obtain ⟨r1, r2, r3, r4⟩ := run_rng hE hg c (by omega)
  obtain ⟨q1, q2, q3, q4⟩ := run_rng hE hg (c + 1) (by omega)
  have hgc := hg c hcM
  have hl : -10000 ≤ leT U N c ∧ leT U N c ≤ 400000 := by
    unfold leT
    split <;> omega
  have brng : ∀ c' s : Int, -1 ≤ mxB (at1 (frT U N c) (lsT U) c' s) (ndT U N c) N ∧ mxB (at1 (frT U N c) (lsT U) c' s) (ndT U N c) N ≤ 400000 := fun c' s => ⟨mxB_ge _ _ _, mxB_le (by omega) _ (fun k hk => by have := r1 k hk; omega)⟩
  have go : ∀ (d s : Nat), s + d = 9 → 2 ≤ s → ∀ J : MI, (∀ a : Nat, a ≠ b + 7 + 2 + (c + 1) → J a = I a) → (c + 1 < 24 ∨ J = I) → (∀ s2 : Nat, c + 1 < 24 → 1 ≤ s2 → s2 ≤ 8 → J (b + 7 + 2 + (c + 1)) s2 = iI (if s2 + 1 < s then mxB (at1 (frT U N (c + 1)) (lsT U) ((c + 1 : Nat) : Int) s2) (ndT U N (c + 1)) N else mxB (at1 (frT U N c) (lsT U) ((c + 1 : Nat) : Int) s2) (ndT U N c) N)) → wp_X2_moveOn_2 G Sh (b + 7) (iI c) (iI (leT U N c)) Q (d + 1) (iI s) J L := by
    intro d
    induction d with
    | zero =>
      intro s h1 h2 J o oi hJ
      show wb_X2_moveOn_2 G Sh (b + 7) _ _ Q _ _ J L
      unfold wb_X2_moveOn_2
      refine lt_br iI_8 rfl (by omega) (by omega) (fun _ => hQ J (fun a ha => ?_) ?_) (fun q => absurd (by omega) q)
      · rcases oi with oi | oi
        · exact o a (by omega)
        · rw [oi]
      · intro c' s2 k0 k1 k2 k3
        by_cases e : c' = c + 1
        · rw [e] at k1 ⊢
          rw [hJ s2 k1 k2 k3]
          by_cases e8 : s2 + 1 < s
          · rw [if_pos e8]
          · rw [if_neg e8, show s2 = 8 by omega]
            exact congrArg iI (mx_8 hE (fun k hk => (r2 k hk).1)).symm
        · rw [o _ (by omega), hG c' s2 (by omega) k1 k2 k3]
          exact congrArg iI (mx_rest (by omega)).symm
    | succ d ih =>
      intro s h1 h2 J o oi hJ
      show wb_X2_moveOn_2 G Sh (b + 7) _ _ Q (wp_X2_moveOn_2 G Sh (b + 7) (iI c) (iI (leT U N c)) Q (d + 1)) _ J L
      unfold wb_X2_moveOn_2
      refine lt_br iI_8 rfl (by omega) (by omega) (fun q => absurd q (by omega)) (fun _ => ⟨in_ok rfl hc (by omega), in_ok rfl (by omega) (by omega), fun x4 e4 => ?_⟩)
      rw [nat_ok rfl (by omega), nat_ok rfl (by omega), o _ (by omega), hG c s (by omega) hc (by omega) (by omega)] at e4
      obtain ⟨s', hs'⟩ : ∃ s', s = s' + 1 := ⟨s - 1, by omega⟩
      have mv := mx_move (U := U) (N := N) (c := c) (s := s') (by omega) N (fun k hk => (r1 k hk).1)
      rw [← hs'] at mv
      have bB := brng c s
      have bA := brng ((c + 1 : Nat) : Int) s'
      generalize hB : mxB (at1 (frT U N c) (lsT U) c s) (ndT U N c) N = B at *
      have next : ∀ (J2 : MI) (x6 : Int32), x6 = iI s + 1 → (∀ a : Nat, a ≠ b + 7 + 2 + (c + 1) → J2 a = I a) → (c + 1 < 24 ∨ J2 = I) → (∀ s2 : Nat, c + 1 < 24 → 1 ≤ s2 → s2 ≤ 8 → s2 ≠ s' → J2 (b + 7 + 2 + (c + 1)) s2 = J (b + 7 + 2 + (c + 1)) s2) → (c + 1 < 24 → J2 (b + 7 + 2 + (c + 1)) s' = iI (mxB (at1 (frT U N (c + 1)) (lsT U) ((c + 1 : Nat) : Int) s') (ndT U N (c + 1)) N)) → wp_X2_moveOn_2 G Sh (b + 7) (iI c) (iI (leT U N c)) Q (d + 1) x6 J2 L := by
        intro J2 x6 e6 o2 oi2 k1 k2
        rw [e6, iI_1, iI_add]
        refine ih (s + 1) (by omega) (by omega) J2 o2 oi2 (fun s2 z1 z2 z3 => ?_)
        by_cases e : s2 = s'
        · rw [e, if_pos (by omega)]
          exact k2 z1
        · rw [k1 s2 z1 z2 z3 e, hJ s2 z1 z2 z3]
          by_cases e2 : s2 + 1 < s
          · rw [if_pos e2, if_pos (by omega)]
          · rw [if_neg e2, if_neg (by omega)]
      refine eq_br e4 iI_m1 (by omega) (by omega) (fun q x6 e6 => next J x6 e6 o oi (fun _ _ _ _ _ => rfl) (fun z1 => ?_)) (fun q => ?_)
      · rw [hJ s' z1 (by omega) (by omega), if_neg (by omega), mv, if_pos q]
      · refine le_br (a := 24) (b := ((c + 1 : Nat) : Int)) iI_24 (by rw [iI_1, iI_add]; rfl) (by omega) (by omega) (fun z x8 e8 => next J x8 e8 o oi (fun _ _ _ _ _ => rfl) (fun z1 => absurd z1 (by omega))) (fun z => ?_)
        rw [if_neg q] at mv
        have ep : (if (0 : Int32) < x4 - iI (leT U N c) then x4 - iI (leT U N c) else (0 : Int32)) = iI (if 0 < B - leT U N c then B - leT U N c else 0) := by
          rw [e4, iI_sub, iI_0]
          by_cases z2 : 0 < B - leT U N c
          · rw [if_pos ((iI_lt (by omega) (by omega)).mpr z2), if_pos z2]
          · rw [if_neg (fun h => z2 ((iI_lt (by omega) (by omega)).mp h)), if_neg z2]
        have es : iI (s : Int) - (1 : Int32) = iI (s' : Int) := by rw [iI_1, iI_sub, hs']; congr 1; omega
        have ec : iI (c : Int) + (1 : Int32) = iI ((c + 1 : Nat) : Int) := by rw [iI_1, iI_add]; rfl
        rw [ep, es, ec]
        have hold := hJ s' (by omega) (by omega) (by omega)
        rw [if_neg (by omega)] at hold
        refine k_addN (by omega) (by omega) (by split <;> omega) (by omega) hold (fun J2 e2 x12 e12 => next J2 x12 e12 (fun a ha => by rw [e2, mu_off ha]; exact o a ha) (Or.inl (by omega)) (fun s2 _ _ _ ne => by rw [e2, mu_miss (Or.inr ne)]) (fun _ => ?_))
        rw [e2, mu_hit ⟨rfl, rfl⟩, mv]
  refine ⟨8, go 7 2 (by omega) (by omega) I (fun _ _ => rfl) (Or.inr rfl) (fun s2 z1 z2 z3 => ?_)⟩
  rw [if_neg (by omega)]
  exact hG (c + 1) s2 (by omega) z1 z2 z3
/-- the glue at a place: 0 before all columns, p behind column p - 1 -/
def giT (U : TS) (p : Nat) : Nat := if p = 0 then 0 else tOf U (p - 1) + 1
def gwT (U : TS) (N p : Nat) : Int := if p = 0 then U 8 0 else if wT U N (p - 1) < 0 then 0 else glT U (p - 1)
def wdT (U : TS) (N c : Nat) : Int := if wT U N c < 0 then 0 else wT U N c
def vdT (U : TS) (N c : Nat) : Int := if wT U N c < 0 then 1 else 0
theorem giT_lt (oP : OkP U) (h3 : U 3 0 = 1) {p : Nat} (hp : p = 0 ∨ (p : Int) - 1 < clT U) : giT U p < 13 := by
  have p2 := oP.2.1
  unfold giT
  split
  · omega
  · have := tOf_lt oP (c := p - 1) (by omega) h3
    omega
theorem k_glueAt {p : Nat} {J : MI} {Q : Option Nat → MI → ML → Prop} (hC : RCp U t J) (oP : OkP U) (h3 : U 3 0 = 1) (hp : p = 0 ∨ (p : Int) - 1 < clT U) (h24 : p ≤ 24) (hQ : Q (some (t + 41 + giT U p)) J L) : wp_X5_glueAt G Sh t (iI p) J L Q := by
  have p2 := oP.2.1
  unfold giT at hQ
  unfold wp_X5_glueAt
  refine eq_br rfl iI_0 (by omega) (by omega) (fun q => ⟨in_ok (k := 0) rfl (by omega) (by omega), ?_⟩) (fun q => ?_)
  · rw [if_pos (by omega)] at hQ
    exact hQ
  · rw [if_neg (by omega)] at hQ
    rw [show iI (p : Int) - (1 : Int32) = iI ((p - 1 : Nat) : Int) by rw [iI_1, iI_sub]; congr 1; omega]
    have lt := tOf_lt oP (c := p - 1) (by omega) h3
    refine k_tmplC hC oP h3 (by omega) (by omega) (fun x5 e5 => ?_)
    have e5 : x5 = iI ((tOf U (p - 1) + 1 : Nat) : Int) := by rw [e5, iI_1, iI_add]; rfl
    refine ⟨in_ok e5 (by omega) (by omega), ?_⟩
    rw [nat_ok e5 (by omega)]
    exact hQ
theorem k_findWidthsC {J0 : MI} {cols : Nat} {Q : MI → ML → Prop} (hC : RC U t J0 L) (oP : OkP U) (oG : OkG U) (h3 : U 3 0 = 1) (hT : isTable G Sh t) (hE : EnOk U N) (hg : ∀ c : Nat, c < cols → -10000 ≤ glT U c ∧ glT U c ≤ 10000) (hcols : (cols : Int) ≤ clT U) (hc24 : cols ≤ 24) (hO : OF (t + 8) J0 L I L) (h8 : I (t + 8) 8 = iI cols) (hG : GrM (t + 8) I U N (U 19) (U 18) 0)
    (hQ : ∀ J : MI, OF (t + 8) J0 L J L → J (t + 8) 8 = iI cols → J (t + 8) 7 = I (t + 8) 7 → (∀ k, k < cols → J (t + 8 + 1) k = iI (wdT U N k) ∧ J (t + 8 + 2) k = iI (vdT U N k)) → (∀ k, k ≤ cols → J (t + 8 + 4) k = iI (gwT U N k)) → Q J L) : wp_X1_findWidths G Sh (t + 8) t I L Q := by
  obtain ⟨cp, cg, -⟩ := hC
  have glue : ∀ (J : MI) (p : Nat), OF (t + 8) J0 L J L → p < 13 → J (t + 41 + p) 0 = iI (U 8 p) := fun J p h hp => by rw [(h _ (by omega)).1]; exact (cg p hp).1
  have pre : ∀ J : MI, OF (t + 8) J0 L J L → RCp U t J := fun J h => cp.cong (fun _ _ _ => rfl) (fun a _ _ => (h a (by omega)).1)
  have hsg := hT.2.2.2.2.2.2.1
  have go : ∀ (d c : Nat), c + d = cols → ∀ J : MI, OF (t + 8) J0 L J L → J (t + 8) 8 = iI cols → J (t + 8) 7 = I (t + 8) 7 → GrM (t + 8) J U N (frT U N c) (ndT U N c) c → (∀ k, k < c → J (t + 8 + 1) k = iI (wdT U N k) ∧ J (t + 8 + 2) k = iI (vdT U N k)) → (∀ k, k ≤ c → J (t + 8 + 4) k = iI (gwT U N k)) → wp_X1_findWidths_16 G Sh (t + 8) t Q (d + 1) (iI c) J L := by
    intro d
    induction d with
    | zero =>
      intro c h1 J hO h8 h7 hG hW hV
      show wb_X1_findWidths_16 G Sh (t + 8) t Q _ _ J L
      unfold wb_X1_findWidths_16
      refine le_br h8 rfl (by omega) (by omega) (fun _ => hQ J hO h8 h7 (fun k hk => hW k (by omega)) (fun k hk => hV k (by omega))) (fun q => absurd (by omega) q)
    | succ d ih =>
      intro c h1 J hO h8 h7 hG hW hV
      show wb_X1_findWidths_16 G Sh (t + 8) t Q (wp_X1_findWidths_16 G Sh (t + 8) t Q (d + 1)) _ J L
      unfold wb_X1_findWidths_16
      refine le_br h8 rfl (by omega) (by omega) (fun q => absurd q (by omega)) (fun _ => ?_)
      obtain ⟨r1, r2, r3, r4⟩ := run_rng hE hg c (by omega)
      have hgc := hg c (by omega)
      have vc : vp_in (iI (c : Int)) 24 := in_ok rfl (by omega) (by omega)
      have nc : (iI (c : Int)).toNatClampNeg = c := nat_ok rfl (by omega)
      have ec : iI (c : Int) + (1 : Int32) = iI ((c + 1 : Nat) : Int) := by rw [iI_1, iI_add]; rfl
      have vc1 : vp_in (iI ((c + 1 : Nat) : Int)) 25 := in_ok rfl (by omega) (by omega)
      have nc1 : (iI ((c + 1 : Nat) : Int)).toNatClampNeg = c + 1 := nat_ok rfl (by omega)
      have hw : J (t + 8 + 7 + 2 + c) 1 = iI (wT U N c) := hG c 1 (by omega) (by omega) (by omega) (by omega)
      -- the tail, whatever the column is
      have tail : ∀ (J3 : MI) (g : Int32), g = iI (gwT U N (c + 1)) → OF (t + 8) J0 L J3 L → J3 (t + 8) 8 = iI cols → J3 (t + 8) 7 = I (t + 8) 7 → GrM (t + 8) J3 U N (frT U N c) (ndT U N c) c → (∀ k, k < c + 1 → J3 (t + 8 + 1) k = iI (wdT U N k) ∧ J3 (t + 8 + 2) k = iI (vdT U N k)) → (∀ k, k ≤ c → J3 (t + 8 + 4) k = iI (gwT U N k)) → wp_X1_findWidths_99 G Sh (t + 8) t (wp_X1_findWidths_16 G Sh (t + 8) t Q (d + 1)) Q (iI c) g (iI ((c + 1 : Nat) : Int)) J3 L := by
        intro J3 g eg o3 k8 k7 kG kW kV
        unfold wp_X1_findWidths_99
        rw [nc1, nc, ec]
        refine ⟨vc1, fun J4 e4 => ⟨vc, fun x27 e27 => ⟨by rw [e27]; exact vc1, ?_⟩⟩⟩
        rw [e27, nc1]
        have w4 : J4 (t + 8 + 1) c = iI (wdT U N c) := by rw [e4, mu_miss (Or.inl (by omega))]; exact (kW c (by omega)).1
        have g4 : J4 (t + 8 + 4) (c + 1) = iI (gwT U N (c + 1)) := by rw [e4, mu_hit ⟨rfl, rfl⟩]; exact eg
        have el : wdT U N c + gwT U N (c + 1) = leT U N c := by
          unfold wdT gwT leT
          rw [if_neg (show ¬ c + 1 = 0 by omega), Nat.add_sub_cancel]
          split <;> omega
        rw [w4, g4, iI_add, el]
        have G4 : GrM (t + 8) J4 U N (frT U N c) (ndT U N c) c := fun c' s a1 a2 a3 a4 => by rw [e4, mu_miss (Or.inl (by omega))]; exact kG c' s a1 a2 a3 a4
        refine k_moveOn (by omega) hE (M := cols) (by omega) hg G4 (fun J5 o5 G5 x32 e32 => ?_)
        rw [e32]
        have p5 : ∀ a : Nat, a < t + 8 + 9 → J5 a = J4 a := fun a ha => o5 a (Or.inl ha)
        refine ih (c + 1) (by omega) J5 (fun a ha => ⟨?_, rfl⟩) ?_ ?_ G5 (fun k hk => ?_) (fun k hk => ?_)
        · rw [o5 a (by omega), e4, mu_off (by omega)]
          exact (o3 a ha).1
        · rw [p5 _ (by omega), e4, mu_miss (Or.inl (by omega))]; exact k8
        · rw [p5 _ (by omega), e4, mu_miss (Or.inl (by omega))]; exact k7
        · rw [p5 _ (by omega), p5 _ (by omega), e4, mu_miss (Or.inl (by omega)), mu_miss (Or.inl (by omega))]
          exact kW k hk
        · rw [p5 _ (by omega)]
          by_cases e : k = c + 1
          · rw [e]; exact g4
          · rw [e4, mu_miss (Or.inr e)]
            exact kV k (by omega)
      have mid : ∀ (J2 : MI) (w : Int32), w = iI (wdT U N c) → J2 = mu J (t + 8 + 2) c (iI (vdT U N c)) → wp_X1_findWidths_68 G Sh (t + 8) t (wp_X1_findWidths_16 G Sh (t + 8) t Q (d + 1)) Q (iI c) w (iI c) J2 L := by
        intro J2 w ew e2
        unfold wp_X1_findWidths_68
        rw [nc, ec]
        refine ⟨vc, fun J3 e3 => ⟨vc, ?_⟩⟩
        have o3 : OF (t + 8) J0 L J3 L := by rw [e3, e2]; exact (hO.mu (by omega)).mu (by omega)
        have v3 : J3 (t + 8 + 2) c = iI (vdT U N c) := by rw [e3, mu_miss (Or.inl (by omega)), e2, mu_hit ⟨rfl, rfl⟩]
        have k8 : J3 (t + 8) 8 = iI cols := by rw [e3, mu_miss (Or.inl (by omega)), e2, mu_miss (Or.inl (by omega))]; exact h8
        have k7 : J3 (t + 8) 7 = I (t + 8) 7 := by rw [e3, mu_miss (Or.inl (by omega)), e2, mu_miss (Or.inl (by omega))]; exact h7
        have kG : GrM (t + 8) J3 U N (frT U N c) (ndT U N c) c := fun c' s a1 a2 a3 a4 => by rw [e3, mu_miss (Or.inl (by omega)), e2, mu_miss (Or.inl (by omega))]; exact hG c' s a1 a2 a3 a4
        have kW : ∀ k, k < c + 1 → J3 (t + 8 + 1) k = iI (wdT U N k) ∧ J3 (t + 8 + 2) k = iI (vdT U N k) := by
          intro k hk
          by_cases e : k = c
          · rw [e]
            exact ⟨by rw [e3, mu_hit ⟨rfl, rfl⟩]; exact ew, v3⟩
          · rw [e3, mu_miss (Or.inr e), mu_miss (Or.inl (by omega)), e2, mu_miss (Or.inl (by omega)), mu_miss (Or.inr e)]
            exact hW k (by omega)
        have kV : ∀ k, k ≤ c → J3 (t + 8 + 4) k = iI (gwT U N k) := fun k hk => by rw [e3, mu_miss (Or.inl (by omega)), e2, mu_miss (Or.inl (by omega))]; exact hV k hk
        have hv01 : vdT U N c = 0 ∨ vdT U N c = 1 := by
          unfold vdT
          split <;> omega
        refine eq_br v3 iI_0 (by omega) (by omega) (fun q => ?_) (fun q => tail J3 (0 : Int32) ?_ o3 k8 k7 kG kW kV)
        · refine k_glueAt (pre J3 o3) oP h3 (Or.inr (by omega)) (by omega) ?_
          have hgi := giT_lt oP h3 (p := c + 1) (Or.inr (by omega))
          refine ⟨_, rfl, hsg _ hgi, tail J3 _ ?_ o3 k8 k7 kG kW kV⟩
          rw [glue J3 _ o3 hgi]
          congr 1
          unfold vdT at q
          unfold gwT glT giT
          rw [if_neg (by omega), if_neg (by omega), Nat.add_sub_cancel]
          split at q
          · omega
          · rename_i q2
            rw [if_neg q2]
        · unfold vdT at q
          unfold gwT
          rw [if_neg (by omega), Nat.add_sub_cancel]
          split at q
          · rename_i q2
            rw [if_pos q2]
            rfl
          · omega
      unfold wp_X2_over
      rw [nc, show ((1 : Int32)).toNatClampNeg = 1 from rfl, hw]
      refine ⟨vc, in_ok (k := 1) rfl (by omega) (by omega), ?_⟩
      refine eq_br rfl iI_m1 (by omega) (by omega) (fun q => ?_) (fun q => ?_)
      · unfold wp_X1_findWidths_48
        rw [nc]
        have e1 : vdT U N c = 1 := by unfold vdT; rw [if_pos (by omega)]
        refine ⟨vc, fun J2 e2 => ⟨vc, ?_⟩⟩
        have e2 : J2 = mu J (t + 8 + 2) c (iI (vdT U N c)) := by rw [e2, e1]; rfl
        refine eq_br (a := 1) (by rw [e2, mu_hit ⟨rfl, rfl⟩, e1]) iI_0 (by omega) (by omega) (fun q => absurd q (by omega)) (fun _ => mid J2 _ ?_ e2)
        unfold wdT
        rw [if_pos (by omega)]
        rfl
      · unfold wp_X1_findWidths_48
        rw [nc]
        have e1 : vdT U N c = 0 := by unfold vdT; rw [if_neg (by omega)]
        refine ⟨vc, fun J2 e2 => ⟨vc, ?_⟩⟩
        have e2 : J2 = mu J (t + 8 + 2) c (iI (vdT U N c)) := by rw [e2, e1]; rfl
        refine eq_br (a := 0) (by rw [e2, mu_hit ⟨rfl, rfl⟩, e1]) iI_0 (by omega) (by omega) (fun _ => mid J2 _ ?_ e2) (fun q => absurd rfl q)
        unfold wdT
        rw [if_neg (by omega)]
  unfold wp_X1_findWidths
  refine k_glueAt (p := 0) (pre I hO) oP h3 (Or.inl rfl) (by omega) ⟨_, rfl, hsg 0 (by omega), in_ok (k := 0) rfl (by omega) (by omega), fun J1 e1 => ⟨cols + 1, go cols 0 (by omega) J1 ?_ ?_ ?_ ?_ (fun k hk => absurd hk (by omega)) (fun k hk => ?_)⟩⟩
  · rw [e1]; exact hO.mu (by omega)
  · rw [e1, mu_miss (Or.inl (by omega))]; exact h8
  · rw [e1, mu_miss (Or.inl (by omega))]
  · intro c' s a1 a2 a3 a4
    rw [e1, mu_miss (Or.inl (by omega))]
    exact hG c' s a1 a2 a3 a4
  · rw [e1, mu_hit ⟨rfl, by rw [show k = 0 by omega]; rfl⟩, show k = 0 by omega]
    exact glue I 0 hO (by omega)
end RC2
