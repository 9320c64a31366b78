section RM2
variable {K : Nat} {G : GX} {x m o n : Nat} {Sh : SH} {F : Nat → Option Nat} {I I0 I1 I2 : MI} {L L0 L1 L2 : ML} {tb : Nat → Nat} {T : Nat → TS} {U V : TS} {b t N cols i : Nat} {E : Int}
/-- the model's scratch rows -/
def NdM (m : Nat) (J : MI) (N : Nat) (nd fr : Nat → Int) : Prop := ∀ k, k < N → J (m + 33) k = iI (nd k) ∧ J (m + 34) k = iI (fr k)
theorem at1_c {fr ls : Nat → Int} {c : Int} {k : Nat} : at1 fr ls c 1 k = true ↔ fr k = c ∧ ls k = c := by
  rw [at1_iff]
  omega
theorem k_fwM {Q : MI → ML → Prop} (hi : i < 6) (oP : OkP U) (oG : OkG U) (h3 : U 3 0 = 1) (hE : EnOk U N) (hN480 : N ≤ 480) (hN : U 17 0 = (N : Int)) (hg : ∀ c : Nat, c < cols → -10000 ≤ glT U c ∧ glT U c ≤ 10000) (hcl : (cols : Int) ≤ clT U) (hc24 : cols ≤ 24) (hR : RM V m i I L) (hV : Vb V U) (h25 : V 25 0 = cols)
    (hQ : ∀ (J : MI) (W : TS), RM W m i J L → MF m i I L J L → Vb W U → (∀ f, f ≠ 26 → f ≠ 27 → W f = V f) → CkM W U N cols → Q J L) : wp_X7_findWidths G Sh m (iI i) I L Q := by
  have vi : vp_in (iI (i : Int)) 6 := in_ok rfl hi (by omega); have ei : (iI (i : Int)).toNatClampNeg = i := nat_ok rfl (by omega)
  have ix480 : ∀ k : Nat, (480 : Int32) * iI i + iI k = iI ((480 * i + k : Nat) : Int) := fun k => ix_ok 480 i k
  have v480 : ∀ k : Nat, k < 480 → vp_in (iI ((480 * i + k : Nat) : Int)) 2880 := fun k hk => in_ok rfl (by omega) (by omega)
  have n480 : ∀ k : Nat, k < 480 → (iI ((480 * i + k : Nat) : Int)).toNatClampNeg = 480 * i + k := fun k hk => nat_ok rfl (by omega)
  have ls : ∀ (J : MI) (W : TS) (k : Nat), RM W m i J L → Vb W U → k < N → J (m + 19) (480 * i + k) + J (m + 20) (480 * i + k) - 1 = iI (lsT U k) := fun J W k r v hk => by
    rw [r.i19 (by omega), r.i20 (by omega), v 19 (by decide), v 20 (by decide), iI_add, iI_1, iI_sub]
    rfl
  -- the columns' loop
  have col : ∀ (d c : Nat), c + d = cols → ∀ (J : MI) (W : TS), RM W m i J L → MF m i I L J L → Vb W U → (∀ f, f ≠ 26 → f ≠ 27 → W f = V f) → CkM W U N c → NdM m J N (ndT U N c) (frT U N c) → wp_X7_findWidths_56 G Sh m (iI i) Q (d + 1) (iI c) J L := by
    intro d
    induction d with
    | zero =>
      intro c h1 J W r mf vb vf ck nd
      show wb_X7_findWidths_56 G Sh m (iI i) Q _ _ J L
      unfold wb_X7_findWidths_56
      rw [ei, r.i25, vf 25 (by decide) (by decide), h25]
      exact ⟨vi, le_br rfl rfl (by omega) (by omega) (fun _ => hQ J W r mf vb vf (by rw [show cols = c by omega]; exact ck)) (fun z => absurd (by omega) z)⟩
    | succ d ih =>
      intro c h1 J W r mf vb vf ck nd
      show wb_X7_findWidths_56 G Sh m (iI i) Q (wp_X7_findWidths_56 G Sh m (iI i) Q (d + 1)) _ J L
      unfold wb_X7_findWidths_56
      rw [ei, r.i25, vf 25 (by decide) (by decide), h25]
      refine ⟨vi, le_br rfl rfl (by omega) (by omega) (fun z => absurd z (by omega)) (fun _ => ?_)⟩
      obtain ⟨r1, r2, r3, r4⟩ := run_rng hE hg c (by omega)
      have hgc := hg c (by omega)
      have lsr : ∀ k, k < N → 0 ≤ lsT U k ∧ lsT U k ≤ 24 := fun k hk => by
        have := hE k hk
        unfold lsT
        omega
      have frr : ∀ k, k < N → 0 ≤ frT U N c k ∧ frT U N c k ≤ 24 := fun k hk => by
        have := r2 k hk
        have := hE k hk
        have := lsr k hk
        omega
      have ler : -10000 ≤ leT U N c ∧ leT U N c ≤ 400000 := by
        unfold leT
        split <;> omega
      -- the second loop
      have mov : ∀ (d2 k : Nat), k + d2 = N → ∀ (J : MI) (W : TS), RM W m i J L → MF m i I L J L → Vb W U → (∀ f, f ≠ 26 → f ≠ 27 → W f = V f) → CkM W U N (c + 1) → NdM m J N (fun q => if q < k then ndT U N (c + 1) q else ndT U N c q) (fun q => if q < k then frT U N (c + 1) q else frT U N c q) → wp_X7_findWidths_225 G Sh m (iI i) (wp_X7_findWidths_56 G Sh m (iI i) Q (d + 1)) Q (d2 + 1) (iI c) (iI (leT U N c)) (iI k) J L := by
        intro d2
        induction d2 with
        | zero =>
          intro k h2 J W r mf vb vf ck nd
          show wb_X7_findWidths_225 G Sh m (iI i) (wp_X7_findWidths_56 G Sh m (iI i) Q (d + 1)) Q _ _ _ _ J L
          unfold wb_X7_findWidths_225
          rw [ei, r.i17, vb 17 (by decide), hN]
          refine ⟨vi, le_br rfl rfl (by omega) (by omega) (fun _ x e => ?_) (fun z => absurd (by omega) z)⟩
          rw [e, iI_1, iI_add]
          refine ih (c + 1) (by omega) J W r mf vb vf ck (fun q hq => ?_)
          have := nd q hq
          dsimp only at this
          rw [if_pos (by omega), if_pos (by omega)] at this
          exact this
        | succ d2 ih2 =>
          intro k h2 J W r mf vb vf ck nd
          show wb_X7_findWidths_225 G Sh m (iI i) (wp_X7_findWidths_56 G Sh m (iI i) Q (d + 1)) Q (wp_X7_findWidths_225 G Sh m (iI i) (wp_X7_findWidths_56 G Sh m (iI i) Q (d + 1)) Q (d2 + 1)) _ _ _ J L
          unfold wb_X7_findWidths_225
          have hk480 : k < 480 := by omega
          have vk : vp_in (iI (k : Int)) 480 := in_ok rfl hk480 (by omega)
          have nk : (iI (k : Int)).toNatClampNeg = k := nat_ok rfl (by omega)
          have ndk := nd k (by omega)
          dsimp only at ndk
          rw [if_neg (Nat.lt_irrefl k), if_neg (Nat.lt_irrefl k)] at ndk
          have a1 := r1 k (by omega)
          have a2 := frr k (by omega)
          have a3 := lsr k (by omega)
          rw [ei, r.i17, vb 17 (by decide), hN]
          refine ⟨vi, le_br rfl rfl (by omega) (by omega) (fun z => absurd z (by omega)) (fun _ x47 e47 => ?_)⟩
          rw [ix480] at e47
          refine ⟨by rw [e47]; exact v480 k hk480, fun x49 e49 => ?_⟩
          rw [ix480] at e49
          refine ⟨by rw [e49]; exact v480 k hk480, fun x51 e51 => ⟨vk, ?_⟩⟩
          rw [e47, e49, n480 k hk480, ls J W k r vb (by omega)] at e51
          rw [nk, ndk.1, ndk.2]
          -- entry k left as it is
          have stay : ¬ (frT U N c k = c ∧ (c : Int) < lsT U k) → ∀ x : Int32, x = iI k + 1 → wp_X7_findWidths_225 G Sh m (iI i) (wp_X7_findWidths_56 G Sh m (iI i) Q (d + 1)) Q (d2 + 1) (iI c) (iI (leT U N c)) x J L := by
            intro hz x e
            rw [e, iI_1, iI_add]
            refine ih2 (k + 1) (by omega) J W r mf vb vf ck (fun q hq => ?_)
            have h := nd q hq
            dsimp only at h ⊢
            by_cases c1 : q = k
            · rw [if_pos (by omega), if_pos (by omega), nd_succ, fr_succ, c1, if_neg hz, if_neg hz]
              exact ndk
            · by_cases c2 : q < k
              · rw [if_pos c2, if_pos c2] at h
                rw [if_pos (by omega), if_pos (by omega)]
                exact h
              · rw [if_neg c2, if_neg c2] at h
                rw [if_neg (by omega), if_neg (by omega)]
                exact h
          -- entry k moved on
          have go316 : (frT U N c k = c ∧ (c : Int) < lsT U k) → ∀ v : Int32, v = iI (ndT U N (c + 1) k) → wp_X7_findWidths_316 G Sh m (iI i) (wp_X7_findWidths_56 G Sh m (iI i) Q (d + 1)) (wp_X7_findWidths_225 G Sh m (iI i) (wp_X7_findWidths_56 G Sh m (iI i) Q (d + 1)) Q (d2 + 1)) Q (iI c) (iI (leT U N c)) (iI k) v (iI k) J L := by
            intro hz v ev
            unfold wp_X7_findWidths_316
            rw [nk]
            refine ⟨vk, fun J1 e1 => ⟨vk, fun J2 e2 x e => ?_⟩⟩
            rw [iI_1, iI_add] at e2
            rw [e, iI_1, iI_add]
            refine ih2 (k + 1) (by omega) J2 W (by rw [e2, e1]; exact (r.out (by omega)).out (by omega)) (by rw [e2, e1]; exact (mf.scr (by omega)).scr (by omega)) vb vf ck (fun q hq => ?_)
            have h := nd q hq
            dsimp only at h ⊢
            by_cases c1 : q = k
            · rw [if_pos (by omega), if_pos (by omega), c1]
              refine ⟨by rw [e2, mu_miss (Or.inl (by omega)), e1, mu_hit ⟨rfl, rfl⟩]; exact ev, ?_⟩
              rw [e2, mu_hit ⟨rfl, rfl⟩, fr_succ, if_pos hz]
            · rw [e2, mu_miss (Or.inl (by omega)), mu_miss (Or.inr c1), e1, mu_miss (Or.inr c1), mu_miss (Or.inl (by omega))]
              by_cases c2 : q < k
              · rw [if_pos c2, if_pos c2] at h
                rw [if_pos (by omega), if_pos (by omega)]
                exact h
              · rw [if_neg c2, if_neg c2] at h
                rw [if_neg (by omega), if_neg (by omega)]
                exact h
          refine eq_br rfl rfl (by omega) (by omega) (fun z1 => ?_) (fun z1 => stay (fun z => z1 z.1))
          refine le_br e51 rfl (by omega) (by omega) (fun z2 => stay (fun z => absurd z2 (by omega))) (fun z2 => ⟨vk, ?_⟩)
          have hz : frT U N c k = c ∧ (c : Int) < lsT U k := ⟨z1, by omega⟩
          refine le_br rfl rfl (by omega) (by omega) (fun z4 => go316 hz _ ?_) (fun z4 => ⟨vk, go316 hz _ ?_⟩)
          · rw [nd_succ, if_pos hz, if_neg (by omega)]
            rfl
          · rw [nd_succ, if_pos hz, if_pos (by omega), iI_sub]
      have e24 : (24 : Int32) * iI i + iI c = iI ((24 * i + c : Nat) : Int) := ix_ok 24 i c
      have v24 : vp_in (iI ((24 * i + c : Nat) : Int)) 144 := in_ok rfl (by omega) (by omega)
      have n24 : (iI ((24 * i + c : Nat) : Int)).toNatClampNeg = 24 * i + c := nat_ok rfl (by omega)
      -- the width is known
      have f198 : ∀ (J1 : MI) (v : Int32), J1 = mu J (m + 27) (24 * i + c) (iI (vdT U N c)) → v = iI (wdT U N c) → wp_X7_findWidths_198 G Sh m (iI i) (wp_X7_findWidths_56 G Sh m (iI i) Q (d + 1)) Q (iI c) (iI (wT U N c)) v (iI ((24 * i + c : Nat) : Int)) J1 L := by
        intro J1 v e1 ev
        unfold wp_X7_findWidths_198
        rw [n24]
        refine ⟨v24, fun J2 e2 => ?_⟩
        have r2' : RM (upT (upT W 27 c (vdT U N c)) 26 c (wdT U N c)) m i J2 L := by
          rw [e2, e1]
          exact (r.set 27 c _ _ rfl (show c < 24 by omega) rfl rfl).set 26 c _ _ rfl (show c < 24 by omega) rfl ev
        have mf2 : MF m i I L J2 L := by
          rw [e2, e1]
          exact (mf.mu 27 c (by omega) (show c < 24 by omega) rfl).mu 26 c (by omega) (show c < 24 by omega) rfl
        have vb2 : Vb (upT (upT W 27 c (vdT U N c)) 26 c (wdT U N c)) U := (vb.up (by decide)).up (by decide)
        have vf2 : ∀ f, f ≠ 26 → f ≠ 27 → upT (upT W 27 c (vdT U N c)) 26 c (wdT U N c) f = V f := fun f z1 z2 => (upT_fn z1).trans ((upT_fn z2).trans (vf f z1 z2))
        have ck2 : CkM (upT (upT W 27 c (vdT U N c)) 26 c (wdT U N c)) U N (c + 1) := by
          intro k hk
          by_cases c1 : k = c
          · rw [c1, upT_hit ⟨rfl, rfl⟩, upT_miss (Or.inl (by decide)), upT_hit ⟨rfl, rfl⟩]
            exact ⟨rfl, rfl⟩
          · rw [upT_miss (Or.inr c1), upT_miss (Or.inl (by decide)), upT_miss (Or.inl (by decide)), upT_miss (Or.inr c1)]
            exact ck k (by omega)
        have nd2 : NdM m J2 N (fun q => if q < 0 then ndT U N (c + 1) q else ndT U N c q) (fun q => if q < 0 then frT U N (c + 1) q else frT U N c q) := by
          intro q hq
          dsimp only
          rw [if_neg (by omega), if_neg (by omega), e2, mu_miss (Or.inl (by omega)), mu_miss (Or.inl (by omega)), e1, mu_miss (Or.inl (by omega)), mu_miss (Or.inl (by omega))]
          exact nd q hq
        refine le_br iI_0 rfl (by omega) (by omega) (fun z => ?_) (fun z => ⟨N + 1, ?_⟩)
        · have lt := tOf_lt oP (c := c) (by omega) h3
          have p2 := oP.2.1
          refine k_behind r2' vb2 hi oP h3 (by omega) (by omega) ⟨in_ok rfl (by omega) (by omega), fun x43 e43 => ⟨N + 1, ?_⟩⟩
          rw [nat_ok rfl (by omega), r2'.i8 (by omega), vb2 8 (by decide), iI_add] at e43
          have el : x43 = iI (leT U N c) := by
            rw [e43]
            unfold leT glT
            rw [if_neg (by omega)]
          rw [el]
          exact mov N 0 (by omega) J2 _ r2' mf2 vb2 vf2 ck2 nd2
        · have el : (0 : Int32) = iI (leT U N c) := by
            unfold leT
            rw [if_pos (by omega)]
            rfl
          have h := mov N 0 (by omega) J2 _ r2' mf2 vb2 vf2 ck2 nd2
          rw [← el] at h
          exact h
      have f178 : ∀ v : Int32, v &&& 1 = iI (vdT U N c) → wp_X7_findWidths_178 G Sh m (iI i) (wp_X7_findWidths_56 G Sh m (iI i) Q (d + 1)) Q (iI c) (iI (wT U N c)) v (iI ((24 * i + c : Nat) : Int)) J L := by
        intro v ev
        unfold wp_X7_findWidths_178
        rw [n24, e24, ev]
        refine ⟨v24, fun J1 e1 => le_br iI_0 rfl (by omega) (by omega) (fun z => f198 J1 _ e1 ?_) (fun z => f198 J1 _ e1 ?_)⟩
        · unfold wdT
          rw [if_neg (by omega)]
        · unfold wdT
          rw [if_pos (by omega)]
          rfl
      -- the first loop
      have wid71 : ∀ (d2 k : Nat), k + d2 = N → wp_X7_findWidths_71 G Sh m (iI i) (wp_X7_findWidths_56 G Sh m (iI i) Q (d + 1)) Q (d2 + 1) (iI c) (iI (mxB (at1 (frT U N c) (lsT U) c 1) (ndT U N c) k)) (iI k) J L := by
        intro d2
        induction d2 with
        | zero =>
          intro k h2
          show wb_X7_findWidths_71 G Sh m (iI i) (wp_X7_findWidths_56 G Sh m (iI i) Q (d + 1)) Q _ _ _ _ J L
          unfold wb_X7_findWidths_71
          rw [ei, r.i17, vb 17 (by decide), hN, e24]
          have hw : mxB (at1 (frT U N c) (lsT U) c 1) (ndT U N c) k = wT U N c := by rw [show k = N by omega]; rfl
          rw [hw]
          refine ⟨vi, le_br rfl rfl (by omega) (by omega) (fun _ => le_br iI_0 rfl (by omega) (by omega) (fun z => f178 _ ?_) (fun z => f178 _ ?_)) (fun z => absurd (by omega) z)⟩
          · unfold vdT
            rw [if_neg (by omega)]
            decide
          · unfold vdT
            rw [if_pos (by omega)]
            decide
        | succ d2 ih2 =>
          intro k h2
          show wb_X7_findWidths_71 G Sh m (iI i) (wp_X7_findWidths_56 G Sh m (iI i) Q (d + 1)) Q (wp_X7_findWidths_71 G Sh m (iI i) (wp_X7_findWidths_56 G Sh m (iI i) Q (d + 1)) Q (d2 + 1)) _ _ _ J L
          unfold wb_X7_findWidths_71
          have hk480 : k < 480 := by omega
          have vk : vp_in (iI (k : Int)) 480 := in_ok rfl hk480 (by omega)
          have nk : (iI (k : Int)).toNatClampNeg = k := nat_ok rfl (by omega)
          have ndk := nd k (by omega)
          have a1 := r1 k (by omega)
          have a2 := frr k (by omega)
          have a3 := lsr k (by omega)
          have b1 := mxB_ge (at1 (frT U N c) (lsT U) c 1) (ndT U N c) k
          have b2 := mxB_le (p := at1 (frT U N c) (lsT U) c 1) (v := ndT U N c) (B := 102080 + 10000 * c) (by omega) k (fun q hq => (r1 q (by omega)).2)
          have es := mxB_succ (at1 (frT U N c) (lsT U) c 1) (ndT U N c) k
          have ihk := ih2 (k + 1) (by omega)
          rw [es] at ihk
          rw [ei, r.i17, vb 17 (by decide), hN]
          refine ⟨vi, le_br rfl rfl (by omega) (by omega) (fun z => absurd z (by omega)) (fun _ x17 e17 => ?_)⟩
          rw [ix480] at e17
          refine ⟨by rw [e17]; exact v480 k hk480, fun x19 e19 => ?_⟩
          rw [ix480] at e19
          refine ⟨by rw [e19]; exact v480 k hk480, fun x21 e21 => ⟨vk, ?_⟩⟩
          rw [e17, e19, n480 k hk480, ls J W k r vb (by omega)] at e21
          rw [nk, ndk.1, ndk.2]
          have no : ¬ (frT U N c k = c ∧ lsT U k = c) → ∀ x : Int32, x = iI k + 1 → wp_X7_findWidths_71 G Sh m (iI i) (wp_X7_findWidths_56 G Sh m (iI i) Q (d + 1)) Q (d2 + 1) (iI c) (iI (mxB (at1 (frT U N c) (lsT U) c 1) (ndT U N c) k)) x J L := by
            intro hz x e
            rw [e, iI_1, iI_add]
            rw [if_neg (fun q => hz (at1_c.mp q))] at ihk
            exact ihk
          refine eq_br rfl rfl (by omega) (by omega) (fun z1 => ?_) (fun z1 => no (fun z => z1 z.1))
          refine eq_br e21 rfl (by omega) (by omega) (fun z2 => ⟨vk, ?_⟩) (fun z2 => no (fun z => z2 z.2))
          rw [if_pos (at1_c.mpr ⟨z1, z2⟩)] at ihk
          refine le_br rfl rfl (by omega) (by omega) (fun z4 x e => ?_) (fun z4 => ⟨vk, fun x31 e31 x e => ?_⟩)
          · rw [e, iI_1, iI_add]
            rw [if_neg (by omega)] at ihk
            exact ihk
          · rw [e, e31, iI_1, iI_add]
            rw [if_pos (by omega)] at ihk
            exact ihk
      refine ⟨N + 1, ?_⟩
      have h := wid71 N 0 (by omega)
      rw [show mxB (at1 (frT U N c) (lsT U) c 1) (ndT U N c) 0 = -1 from rfl, ← iI_m1] at h
      exact h
  -- the copies
  have cop : ∀ (d k : Nat), k + d = N → ∀ J : MI, RM V m i J L → MF m i I L J L → NdM m J k (U 18) (U 19) → wp_X7_findWidths_2 G Sh m (iI i) Q (d + 1) (iI k) J L := by
    intro d
    induction d with
    | zero =>
      intro k h1 J r mf nd
      show wb_X7_findWidths_2 G Sh m (iI i) Q _ _ J L
      unfold wb_X7_findWidths_2
      rw [ei, r.i17, hV 17 (by decide), hN]
      refine ⟨vi, le_br rfl rfl (by omega) (by omega) (fun _ => ⟨cols + 1, ?_⟩) (fun z => absurd (by omega) z)⟩
      exact col cols 0 (by omega) J V r mf hV (fun _ _ _ => rfl) (fun q hq => absurd hq (by omega)) (fun q hq => nd q (by omega))
    | succ d ih =>
      intro k h1 J r mf nd
      show wb_X7_findWidths_2 G Sh m (iI i) Q (wp_X7_findWidths_2 G Sh m (iI i) Q (d + 1)) _ J L
      unfold wb_X7_findWidths_2
      have hk480 : k < 480 := by omega
      have vk : vp_in (iI (k : Int)) 480 := in_ok rfl hk480 (by omega)
      have nk : (iI (k : Int)).toNatClampNeg = k := nat_ok rfl (by omega)
      rw [ei, r.i17, hV 17 (by decide), hN]
      refine ⟨vi, le_br rfl rfl (by omega) (by omega) (fun z => absurd z (by omega)) (fun _ x3 e3 => ?_)⟩
      rw [ix480] at e3
      refine ⟨by rw [e3]; exact v480 k hk480, vk, fun J1 e1 x7 e7 => ?_⟩
      rw [ix480] at e7
      refine ⟨by rw [e7]; exact v480 k hk480, vk, fun J2 e2 x e => ?_⟩
      rw [e3, nk, n480 k hk480, r.i18 hk480, hV 18 (by decide)] at e1
      have r1 : RM V m i J1 L := by rw [e1]; exact r.out (by omega)
      rw [e7, nk, n480 k hk480, r1.i19 hk480, hV 19 (by decide)] at e2
      rw [e, iI_1, iI_add]
      refine ih (k + 1) (by omega) J2 (by rw [e2]; exact r1.out (by omega)) (by rw [e2, e1]; exact (mf.scr (by omega)).scr (by omega)) (fun q hq => ?_)
      by_cases c1 : q = k
      · rw [c1]
        exact ⟨by rw [e2, mu_miss (Or.inl (by omega)), e1, mu_hit ⟨rfl, rfl⟩], by rw [e2, mu_hit ⟨rfl, rfl⟩]⟩
      · rw [e2, mu_miss (Or.inl (by omega)), mu_miss (Or.inr c1), e1, mu_miss (Or.inr c1), mu_miss (Or.inl (by omega))]
        exact nd q (by omega)
  exact ⟨N + 1, cop N 0 (by omega) I hR MF.rf (fun q hq => absurd hq (by omega))⟩
end RM2
