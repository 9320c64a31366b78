section RM3
variable {K : Nat} {G : GX} {x m o n : Nat} {Sh : SH} {F : Nat → Option Nat} {I I0 I1 I2 : MI} {L L0 L1 L2 : ML} {tb : Nat → Nat} {T : Nat → TS} {U V : TS} {b t N cols i : Nat} {E : Int}
theorem k_shareM {Q : MI → ML → Prop} (hi : i < 6) (oP : OkP U) (oG : OkG U) (h3 : U 3 0 = 1) (hcl : (cols : Int) ≤ clT U) (hc24 : cols ≤ 24) (hr : ∀ k, k < cols → 0 ≤ wdT U N k ∧ wdT U N k ≤ 400000) (hEr : -100000000 ≤ E ∧ E ≤ 100000000) (hg : ∀ k, k ≤ cols → (0 ≤ gvT U N E k ∧ gvT U N E k ≤ 10000) ∧ 0 ≤ goT U E k ∧ goT U E k ≤ 3) (hR : RM V m i I L) (hV : Vb V U) (h25 : V 25 0 = cols) (hk : CkM V U N cols) (h30 : V 30 0 - V 29 0 = E)
    (hQ : ∀ (J : MI) (L2 : ML) (W : TS) (O wh : Int), O = orT U N cols E → wh = smT U N E O (cols + 1) → RM W m i J L2 → MF m i I L J L2 → Vb W U → (∀ f, f ≠ 28 → f ≠ 31 → f ≠ 32 → W f = V f) → W 31 0 = O → W 32 0 = abI E - shT O E wh → (∀ k, k < cols → W 28 k = plT U N E O (shT O E wh) wh k) → Q J L2) : wp_X7_share G Sh m (iI i) I L Q := by
  have vi : vp_in (iI (i : Int)) 6 := in_ok rfl hi (by omega); have ei : (iI (i : Int)).toNatClampNeg = i := nat_ok rfl (by omega)
  have ec1 : iI (cols : Int) + (1 : Int32) = iI ((cols + 1 : Nat) : Int) := by rw [iI_1, iI_add]; rfl
  have hOr : -1 ≤ orT U N cols E ∧ orT U N cols E ≤ 3 := by
    unfold orT
    split
    · omega
    · exact or_rng (fun k hk => (hg k hk).2) (cols + 1) (Nat.le_refl _)
  have swh := sm_rng (U := U) (N := N) (E := E) (by_ := orT U N cols E) (cols + 1) (fun k hk => (hg k (by omega)).1)
  have hE0 : E = 0 → orT U N cols E = -1 := fun h => by unfold orT; rw [if_pos h]
  have hwh0 : orT U N cols E = -1 → smT U N E (orT U N cols E) (cols + 1) = 0 := fun h => by rw [h]; exact sm_none hg (cols + 1) (Nat.le_refl _)
  have hab : 0 ≤ abI E ∧ abI E ≤ 100000000 := by
    unfold abI
    split <;> omega
  generalize hO : orT U N cols E = O at *
  generalize hwh : smT U N E O (cols + 1) = wh at *
  have hsh : 0 ≤ shT O E wh ∧ shT O E wh ≤ 100000000 := by
    unfold shT
    split
    · omega
    · split
      · split <;> omega
      · omega
  generalize hsh2 : shT O E wh = sh at *
  -- from the order on
  have f96 : ∀ (more : Int32) (J : MI) (W : TS), (more = 1 ∧ 0 < E ∨ more = 0 ∧ ¬ 0 < E) → RM W m i J L → MF m i I L J L → Vb W U → (∀ f, f ≠ 31 → W f = V f) → W 31 0 = O → wp_X7_share_96 G Sh m (iI i) Q (iI cols) (jI E) more J L := by
    intro more J W hmore r mf vb vf w31
    have ck : CkM W U N cols := fun k hk' => by rw [vf 26 (by decide), vf 27 (by decide)]; exact hk k hk'
    -- the places
    have loop : ∀ (d c : Nat), c + d = cols + 1 → ∀ (L1 : ML) (W : TS) (y : Int64), (c ≤ cols → y = jI (xP U N c)) → RM W m i J L1 → MF m i I L J L1 → Vb W U → (∀ f, f ≠ 28 → f ≠ 31 → f ≠ 32 → W f = V f) → W 31 0 = O → W 32 0 = abI E - sh → (∀ k, k < c → k < cols → W 28 k = plT U N E O sh wh k) → wp_X7_share_202 G Sh m (iI i) Q (d + 1) (iI cols) more (jI wh) (jI sh) y (iI c) J L1 := by
      intro d
      induction d with
      | zero =>
        intro c h1 L1 W y ey r mf vb vf w31 w32 w28
        show wb_X7_share_202 G Sh m (iI i) Q _ _ _ _ _ _ _ J L1
        unfold wb_X7_share_202
        exact lt_br rfl rfl (by omega) (by omega) (fun _ => hQ J L1 W O wh rfl hwh.symm r mf vb vf w31 (by rw [hsh2]; exact w32) (fun k hk' => by rw [hsh2]; exact w28 k (by omega) hk')) (fun z => absurd (by omega) z)
      | succ d ih =>
        intro c h1 L1 W y ey r mf vb vf w31 w32 w28
        have ey := ey (by omega)
        show wb_X7_share_202 G Sh m (iI i) Q (wp_X7_share_202 G Sh m (iI i) Q (d + 1)) _ _ _ _ _ _ J L1
        unfold wb_X7_share_202
        have ck : CkM W U N cols := fun k hk' => by rw [vf 26 (by decide) (by decide) (by decide), vf 27 (by decide) (by decide) (by decide)]; exact hk k hk'
        have ecc : iI (c : Int) + (1 : Int32) = iI ((c + 1 : Nat) : Int) := by rw [iI_1, iI_add]; rfl
        have f242 : ∀ v : Int64, v = jI (mvT U N E O sh wh c) → wp_X7_share_242 G Sh m (iI i) (wp_X7_share_202 G Sh m (iI i) Q (d + 1)) Q (iI cols) more (jI wh) (jI sh) y (iI c) v J L1 := by
          intro v ev
          unfold wp_X7_share_242
          refine k_wog r vb hi oP oG h3 hcl hc24 (by omega) ck (fun y47 e47 => ?_)
          rw [ey, jI_add] at e47
          refine le_br rfl rfl (by omega) (by omega) (fun z x49 e49 => ?_) (fun z => ?_)
          · rw [e49, ecc]
            exact ih (c + 1) (by omega) L1 W y47 (fun q => absurd q (by omega)) r mf vb vf w31 w32 (fun k h1 h2 => w28 k (by omega) h2)
          · have f291 : ∀ u : Int64, u = jI (plT U N E O sh wh c) → wp_X7_share_291 G Sh m (iI i) (wp_X7_share_202 G Sh m (iI i) Q (d + 1)) Q (iI cols) more (jI wh) (jI sh) y47 (iI c) u ((24 : Int32) * iI i + iI c) J L1 := by
              intro u eu
              have e24 : (24 : Int32) * iI i + iI c = iI ((24 * i + c : Nat) : Int) := ix_ok 24 i c
              have hrc := hr c (by omega)
              unfold wp_X7_share_291
              rw [e24, nat_ok rfl (by omega)]
              refine ⟨in_ok rfl (by omega) (by omega), fun L2 e2 x53 e53 => ⟨in_ok e53 (by omega) (by omega), fun y55 e55 x56 e56 => ?_⟩⟩
              rw [nat_ok e53 (by omega), r.i26 (by omega), (ck c (by omega)).1, iI_long (by omega), e47, jI_add] at e55
              rw [e56, ecc]
              have r2 : RM (upT W 28 c (plT U N E O sh wh c)) m i J L2 := by rw [e2]; exact r.setL 28 c _ _ rfl (show c < 24 by omega) rfl eu
              refine ih (c + 1) (by omega) L2 _ y55 (fun _ => e55) r2 (by rw [e2]; exact mf.mul 28 c (by omega) (show c < 24 by omega) rfl) (vb.up (by decide)) (fun f a1 a2 a3 => (upT_fn a1).trans (vf f a1 a2 a3)) ?_ ?_ (fun k a1 a2 => ?_)
              · rw [upT_miss (Or.inl (by decide))]; exact w31
              · rw [upT_miss (Or.inl (by decide))]; exact w32
              · by_cases e : k = c
                · rw [e, upT_hit ⟨rfl, rfl⟩]
                · rw [upT_miss (Or.inr e)]
                  exact w28 k (by omega) a2
            rcases hmore with ⟨rfl, hE⟩ | ⟨rfl, hE⟩
            · refine br_n (by decide) (f291 _ ?_)
              rw [e47, ev, jI_add]
              unfold plT
              rw [if_pos (by omega)]
            · refine br_y rfl (f291 _ ?_)
              rw [e47, ev, jI_sub]
              unfold plT
              by_cases e0 : E = 0
              · have : wh = 0 := hwh0 (hE0 e0)
                unfold mvT
                rw [if_pos this, if_pos (by omega)]
                congr 1 <;> omega
              · rw [if_neg (by omega)]
        refine lt_br rfl rfl (by omega) (by omega) (fun z => absurd z (by omega)) (fun _ => ?_)
        refine cmpeq_br rfl jI_0 (by omega) (by omega) (fun z => f242 _ ?_) (fun z => ⟨vi, ?_⟩)
        · unfold mvT
          rw [if_pos z]
          rfl
        · have src := sm_rng (U := U) (N := N) (E := E) (by_ := O) (c + 1) (fun k hk' => (hg k (by omega)).1)
          rw [ei, r.i31, w31, ecc]
          refine k_sumOf r vb hi oP oG h3 hcl hc24 (by omega) ck hmore hOr ⟨?_, f242 _ ?_⟩
          · rw [jI_0, jI_eq (by omega) (by omega)]
            exact z
          · rw [jI_mul, jI_div (prod_rng ⟨hsh.1, by omega⟩ ⟨src.1, by omega⟩) (by omega)]
            unfold mvT
            rw [if_neg z]
    have f183 : ∀ u v : Int64, u = jI (abI E) → v = jI sh → wp_X7_share_183 G Sh m (iI i) Q (iI cols) more (jI wh) u v J L := by
      intro u v eu ev
      unfold wp_X7_share_183
      rw [ei, ev, eu, jI_sub]
      refine ⟨vi, fun L3 e3 => ⟨cols + 2, ?_⟩⟩
      have r3 : RM (upT W 32 0 (abI E - sh)) m i J L3 := by rw [e3]; exact r.setL 32 0 i _ rfl (by decide) (by simp [wid]) rfl
      refine loop (cols + 1) 0 (by omega) L3 _ _ (fun _ => rfl) r3 (by rw [e3]; exact mf.mul 32 0 (by omega) (by decide) (by simp [wid])) (vb.up (by decide)) (fun f a1 a2 a3 => (upT_fn a3).trans (vf f a2)) ?_ (upT_hit ⟨rfl, rfl⟩) (fun k a1 _ => absurd a1 (by omega))
      rw [upT_miss (Or.inl (by decide))]
      exact w31
    have f139 : ∀ u : Int64, u = jI (abI E) → wp_X7_share_139 G Sh m (iI i) Q (iI cols) more (jI wh) u J L := by
      intro u eu
      unfold wp_X7_share_139 wp_X7_share_181
      rw [ei, r.i31, w31]
      refine ⟨vi, le_br iI_0 rfl (by omega) (by omega) (fun z => ?_) (fun z => f183 _ _ eu ?_)⟩
      · have hE' : E ≠ 0 := fun h => by have := hE0 h; omega
        rcases hmore with ⟨rfl, hE⟩ | ⟨rfl, hE⟩
        · refine br_n (by decide) (f183 _ _ eu ?_)
          rw [eu, ← hsh2]
          unfold shT
          rw [if_neg (by omega), if_neg (by omega)]
        · refine br_y rfl ⟨vi, eq_br rfl iI_0 (by omega) (by omega) (fun z2 => ?_) (fun z2 => f183 _ _ eu ?_)⟩
          · refine cmple_br eu rfl (by omega) (by omega) (fun z4 => f183 _ _ eu ?_) (fun z4 => f183 _ _ eu ?_)
            · rw [eu, ← hsh2]
              unfold shT
              rw [if_neg (by omega), if_pos (by omega), if_neg (by omega)]
            · rw [← hsh2]
              unfold shT
              rw [if_neg (by omega), if_pos (by omega), if_pos (by omega)]
          · rw [eu, ← hsh2]
            unfold shT
            rw [if_neg (by omega), if_neg (by omega)]
      · rw [← hsh2]
        unfold shT
        rw [if_pos (by omega)]
        rfl
    have f125 : wp_X7_share_125 G Sh m (iI i) Q (iI cols) (jI E) more (jI wh) J L := by
      unfold wp_X7_share_125
      refine cmpge_br rfl jI_0 (by omega) (by omega) (fun z => f139 _ ?_) (fun z => f139 _ ?_)
      · unfold abI
        split
        · rfl
        · congr 1 <;> omega
      · unfold abI
        rw [if_neg (by omega), jI_neg]
    unfold wp_X7_share_96
    rw [ei, r.i31, w31]
    refine ⟨vi, le_br iI_0 rfl (by omega) (by omega) (fun z => ⟨vi, ?_⟩) (fun z => ?_)⟩
    · rw [ec1]
      refine k_sumOf r vb hi oP oG h3 hcl hc24 (Nat.le_refl _) ck hmore hOr ?_
      rw [hwh]
      exact f125
    · have : wh = 0 := hwh0 (by omega)
      rw [this] at f125
      exact f125
  -- the orders
  have f32 : ∀ more : Int32, (more = 1 ∧ 0 < E ∨ more = 0 ∧ ¬ 0 < E) → wp_X7_share_32 G Sh m (iI i) Q (iI cols) (jI E) more I L := by
    intro more hmore
    unfold wp_X7_share_32
    rw [ei]
    refine ⟨vi, fun J8 e8 => ?_⟩
    rw [iI_m1] at e8
    have r8 : RM (upT V 31 0 (-1)) m i J8 L := by rw [e8]; exact hR.set 31 0 i _ rfl (by decide) (by simp [wid]) rfl
    have m8 : MF m i I L J8 L := by rw [e8]; exact MF.rf.mu 31 0 (by omega) (by decide) (by simp [wid])
    by_cases hE : E = 0
    · refine ⟨1, ?_⟩
      show wb_X7_share_44 G Sh m (iI i) Q _ _ _ _ _ J8 L
      unfold wb_X7_share_44
      refine br_n (by decide) (cmpeq_br rfl jI_0 (by omega) (by omega) (fun _ => ?_) (fun z => absurd hE z))
      exact f96 more J8 _ hmore r8 m8 (hV.up (by decide)) (fun f a => upT_fn a) (by rw [upT_hit ⟨rfl, rfl⟩, hE0 hE])
    · have ord : ∀ (d j : Nat), j + d = 4 → ∀ (J : MI) (W : TS), RM W m i J L → MF m i I L J L → Vb W U → (∀ f, f ≠ 31 → W f = V f) → W 31 0 = orM U N cols E j → wp_X7_share_44 G Sh m (iI i) Q (d + 1) (iI cols) (jI E) more (iI j) J L := by
        intro d
        induction d with
        | zero =>
          intro j h1 J W r mf vb vf w31
          show wb_X7_share_44 G Sh m (iI i) Q _ _ _ _ _ J L
          unfold wb_X7_share_44
          refine le_br iI_4 rfl (by omega) (by omega) (fun _ => f96 more J W hmore r mf vb vf ?_) (fun z => absurd (by omega) z)
          rw [w31, show j = 4 by omega, or_same hE hg, hO]
        | succ d ih =>
          intro j h1 J W r mf vb vf w31
          show wb_X7_share_44 G Sh m (iI i) Q (wp_X7_share_44 G Sh m (iI i) Q (d + 1)) _ _ _ _ J L
          unfold wb_X7_share_44
          have ck : CkM W U N cols := fun k hk' => by rw [vf 26 (by decide), vf 27 (by decide)]; exact hk k hk'
          have srj := sm_rng (U := U) (N := N) (E := E) (by_ := (j : Int)) (cols + 1) (fun k hk' => (hg k (by omega)).1)
          have eo : orM U N cols E (j + 1) = if smT U N E j (cols + 1) ≤ 0 then orM U N cols E j else j := rfl
          refine le_br iI_4 rfl (by omega) (by omega) (fun z => absurd z (by omega)) (fun _ => ?_)
          refine cmpeq_br rfl jI_0 (by omega) (by omega) (fun z => absurd z hE) (fun _ => ?_)
          rw [ec1]
          refine k_sumOf r vb hi oP oG h3 hcl hc24 (Nat.le_refl _) ck hmore (by omega) ?_
          rw [ei, r.i31]
          refine cmple_br rfl jI_0 (by omega) (by omega) (fun z => ⟨vi, vi, fun J2 e2 x e => ?_⟩) (fun z => ⟨vi, fun J2 e2 x e => ?_⟩)
          · rw [e, iI_1, iI_add]
            refine ih (j + 1) (by omega) J2 (upT W 31 0 (W 31 0)) (by rw [e2]; exact r.set 31 0 i _ rfl (by decide) (by simp [wid]) rfl) (by rw [e2]; exact mf.mu 31 0 (by omega) (by decide) (by simp [wid])) (vb.up (by decide)) (fun f a => (upT_fn a).trans (vf f a)) ?_
            rw [upT_hit ⟨rfl, rfl⟩, eo, if_pos z]
            exact w31
          · rw [e, iI_1, iI_add]
            refine ih (j + 1) (by omega) J2 (upT W 31 0 j) (by rw [e2]; exact r.set 31 0 i _ rfl (by decide) (by simp [wid]) rfl) (by rw [e2]; exact mf.mu 31 0 (by omega) (by decide) (by simp [wid])) (vb.up (by decide)) (fun f a => (upT_fn a).trans (vf f a)) ?_
            rw [upT_hit ⟨rfl, rfl⟩, eo, if_neg z]
      exact ⟨5, ord 4 0 (by omega) J8 _ r8 m8 (hV.up (by decide)) (fun f a => upT_fn a) (upT_hit ⟨rfl, rfl⟩)⟩
  unfold wp_X7_share
  rw [ei, hR.i25, h25, hR.i30, hR.i29, jI_sub, h30]
  refine ⟨vi, fun x2 e2 => ⟨vi, vi, fun y5 e5 => ?_⟩⟩
  rw [e2, e5]
  exact cmple_br rfl jI_0 (by omega) (by omega) (fun z => f32 0 (Or.inr ⟨rfl, by omega⟩)) (fun z => f32 1 (Or.inl ⟨rfl, by omega⟩))
end RM3
