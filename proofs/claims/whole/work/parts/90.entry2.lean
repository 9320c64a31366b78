section OP7
variable {K : Nat} {G : GX} {x m o n : Nat} {Sh : SH} {F : Nat → Option Nat} {I I1 I2 : MI} {L L1 L2 : ML} {tb : Nat → Nat} {T : Nat → TS}
/-- addEntry: refused, or an entry more -/
theorem k_addEntry {U : TS} {t r e : Nat} {w s : Int} {p : Int32} {Q : Int32 → MI → ML → Prop} (O : OpR U r e) (hw : 0 ≤ w ∧ w ≤ 100000) (hs : -2147483648 ≤ s ∧ s < 2147483648) (hp : p = 0 ∨ p = 1) (hok : Ok K U) (hC : RC U t I L) (kb : ¬ (1 ≤ s ∧ s ≤ 8) → Q (-2) I L) (kn : (1 ≤ s ∧ s ≤ 8) → ¬ enT U r + s ≤ clT U → Q (-1) I L)
    (kk : (1 ≤ s ∧ s ≤ 8) → enT U r + s ≤ clT U → ∀ (v : Int) (J : MI), v = (if p = 0 then U 6 (tOf U (enT U r).toNat) + U 7 (tOf U (enT U r + s - 1).toNat) else 0) → CF t I L J L → RC (addT U r e (w + v) s) t J L → Ok (K + 1) (addT U r e (w + v) s) → Q (iI (enT U r)) J L) : wp_X5_addEntry G Sh t (iI w) (iI s) p I L Q := by
  obtain ⟨a1, a2, a3, a4, a5, a6, a7, a8, a9, a10, a11, a12⟩ := id O
  obtain ⟨oP, oG, oR, oI, oN⟩ := id hok
  obtain ⟨cp, cg, cr, ci, cn⟩ := id hC
  have C := cr.2.2.1 r (by omega) (by omega)
  unfold wp_X5_addEntry
  refine k_isIn rfl iI_1 iI_8 hs (by omega) (by omega) (fun hc => br_y rfl (kb hc)) (fun hc => br_n (by decide) ?_)
  intro x5 e5
  have e5 : x5 = iI (r : Int) := by rw [e5, cr.1, a1, iI_1, iI_sub]; congr 1; omega
  refine ⟨in_ok e5 (by omega) (by omega), fun x7 e7 x8 e8 => k_limC cp oP ?_⟩
  rw [nat_ok e5 (by omega), C.2.1] at e7
  rw [e7, iI_add, iI_1, iI_sub] at e8
  obtain ⟨a, ha⟩ : ∃ a : Nat, enT U r = (a : Int) := ⟨(enT U r).toNat, by omega⟩
  obtain ⟨b, hb⟩ : ∃ b : Nat, enT U r + s - 1 = (b : Int) := ⟨(enT U r + s - 1).toNat, by omega⟩
  rw [nat_ok e5 (by omega)]
  refine lt_br e8 rfl (by omega) (by omega) (fun hl => ?_) (fun hl => kn hc (by omega))
  have hl2 : enT U r + s ≤ clT U := by omega
  rcases hp with hp | hp
  · refine br_y hp ?_
    rw [e7, e8, hb, ha]
    have l1 := tOf_lt oP (c := a) (by omega) a12
    have l2 := tOf_lt oP (c := b) (by omega) a12
    have p2 := oP.2.1
    unfold wp_X3_textOf
    refine k_tmplC cp oP a12 (by omega) (by omega) ⟨in_ok rfl (by omega) (by omega), k_tmplC cp oP a12 (by omega) (by omega) ⟨in_ok rfl (by omega) (by omega), ?_⟩⟩
    rw [nat_ok rfl (by omega), nat_ok rfl (by omega), show t + 1 + 2 = t + 3 from rfl, show t + 1 + 3 = t + 4 from rfl, cp.2.2.2.2.2.1 _ l1, cp.2.2.2.2.2.2 _ l2, iI_add]
    dsimp only
    rw [iI_add]
    have b1 := oP.2.2.2 _ l1
    have b2 := oP.2.2.2 _ l2
    unfold wp_X5_addEntry_78
    rw [← ha]
    refine k_append O (by omega) hc hl2 hok hC (fun J hJ hR => kk hc hl2 (U 6 (tOf U a) + U 7 (tOf U b)) J ?_ hJ hR (ok_add O (by omega) hc hl2 hok).1)
    rw [if_pos hp, hb, ha]
    rfl
  · refine br_n (by rw [hp]; decide) ?_
    unfold wp_X5_addEntry_78
    rw [e7]
    have hv : w + 0 = w := Int.add_zero w
    refine k_append O (by omega) hc hl2 hok hC (fun J hJ hR => kk hc hl2 0 J ?_ hJ (by rw [hv]; exact hR) (by rw [hv]; exact (ok_add O (by omega) hc hl2 hok).1))
    rw [if_neg (by rw [hp]; decide)]
theorem s_entry (h : Inv K G x m o Sh F I L n tb T) : lawS_entry G x m o (Rel (K + 1) G x m o) Sh F I L := by
  have hn := h.1.2.2.1; have hxm := h.1.1; have hmo := h.1.2.1
  unfold lawS_entry
  intro q1 q2 q3 q4 hp
  obtain ⟨z, hz, rfl⟩ := iI_of q1
  obtain ⟨w, hw, rfl⟩ := iI_of q2
  obtain ⟨s, hs, rfl⟩ := iI_of q3
  unfold wp_X6_entry
  refine k_find h hz (fun hz0 => Or.inl ⟨rfl, ?_⟩) (fun i hi e => Or.inr ⟨tb i, rfl, (h.2.2.1 i hi).2, ?_⟩)
  · unfold wp_X7_entry
    intro J e1; refine k_isT (by rw [e1, mu_miss (Or.inr (by omega))]; exact h.2.2.2.1.2) hn hz (fun _ => br_y rfl ⟨rfl, by rw [e1]; exact h.fault _⟩) (fun q => absurd q hz0)
  · subst e
    have hti := h.1.2.2.2.1 i hi
    obtain ⟨hC, hM, hok⟩ := h.2.2.2.2.1 i hi
    obtain ⟨cp, cg, cr, ci, cn⟩ := id hC
    obtain ⟨oP, oG, oR, oI, oN⟩ := id hok
    have w2 := oR.2.1
    have vi : vp_in (iI (i : Int)) 6 := in_ok rfl (by omega) (by omega)
    have ei : (iI (i : Int)).toNatClampNeg = i := nat_ok rfl (by omega)
    have hcf : CF (tb i) I L I L := CF.rf
    have fin : ∀ J : MI, J = mu I m 0 0 → Rel (K + 1) G x m o Sh F J L := fun J e1 => by rw [e1]; exact h.fault _
    refine eq_br cr.2.1 iI_0 (by omega) (by omega) (fun ho => ?_) (fun ho => ?_)
    · unfold wp_X7_entry
      intro J e1; obtain ⟨hJ, mJ, cJ⟩ := h.mst hi hcf e1; refine k_isT cJ hn (by omega) (fun q => absurd ⟨by omega, by omega⟩ q) (fun _ => br_n (by decide) ?_)
      rw [ei]
      exact ⟨vi, eq_br hJ.i14 iI_0 (by omega) (by omega) (fun _ => ⟨rfl, fin _ e1⟩) (fun q => absurd ho q)⟩
    obtain ⟨r, e, O⟩ := opR_of oP oR ho
    obtain ⟨a1, a2, a3, a4, a5, a6, a7, a8, a9, a10, a11, a12⟩ := id O
    refine k_isIn rfl iI_0 iI_100000 hw (by omega) (by omega) (fun hc => br_y rfl ?_) (fun hc => br_n (by decide) ?_)
    · unfold wp_X7_entry
      intro J e1; obtain ⟨hJ, mJ, cJ⟩ := h.mst hi hcf e1; refine k_isT cJ hn (by omega) (fun q => absurd ⟨by omega, by omega⟩ q) (fun _ => br_n (by decide) ?_)
      rw [ei]
      refine ⟨vi, eq_br hJ.i14 iI_0 (by omega) (by omega) (fun q => absurd q ho) (fun _ => ?_)⟩
      exact k_in (iI_long hw) jI_0 jI_100000 (by omega) (by omega) (by omega) (fun _ => br_y rfl ⟨rfl, fin _ e1⟩) (fun q => absurd q hc)
    refine k_addEntry O hc hs hp hok hC (fun hb => ?_) (fun hb hl => ?_) (fun hb hl v J0 hv hcf0 hR0 hok0 => ?_)
    · unfold wp_X7_entry
      intro J e1; obtain ⟨hJ, mJ, cJ⟩ := h.mst hi hcf e1; refine k_isT cJ hn (by omega) (fun q => absurd ⟨by omega, by omega⟩ q) (fun _ => br_n (by decide) ?_)
      rw [ei]
      refine ⟨vi, eq_br hJ.i14 iI_0 (by omega) (by omega) (fun q => absurd q ho) (fun _ => ?_)⟩
      refine k_in (iI_long hw) jI_0 jI_100000 (by omega) (by omega) (by omega) (fun q => absurd hc q) (fun _ => br_n (by decide) ?_)
      exact k_in (iI_long hs) jI_1 jI_8 (by omega) (by omega) (by omega) (fun _ => br_y rfl ⟨rfl, fin _ e1⟩) (fun q => absurd q hb)
    · unfold wp_X7_entry
      intro J e1; obtain ⟨hJ, mJ, cJ⟩ := h.mst hi hcf e1; refine k_isT cJ hn (by omega) (fun q => absurd ⟨by omega, by omega⟩ q) (fun _ => br_n (by decide) ?_)
      rw [ei]
      refine ⟨vi, eq_br hJ.i14 iI_0 (by omega) (by omega) (fun q => absurd q ho) (fun _ => ?_)⟩
      refine k_in (iI_long hw) jI_0 jI_100000 (by omega) (by omega) (by omega) (fun q => absurd hc q) (fun _ => br_n (by decide) ?_)
      refine k_in (iI_long hs) jI_1 jI_8 (by omega) (by omega) (by omega) (fun q => absurd hb q) (fun _ => br_n (by decide) ?_)
      refine k_free O hJ (by omega) (k_limM hJ (by omega) oP ?_)
      exact le_br (iI_add _ _) rfl (by omega) (by omega) (fun q => absurd q hl) (fun _ => ⟨rfl, fin _ e1⟩)
    · unfold wp_X7_entry
      intro J e1
      obtain ⟨hJ, mJ, cJ⟩ := h.mst hi hcf0 e1
      refine k_isT cJ hn (by omega) (fun q => absurd ⟨by omega, by omega⟩ q) (fun _ => br_n (by decide) ?_)
      rw [ei]
      refine ⟨vi, eq_br hJ.i14 iI_0 (by omega) (by omega) (fun q => absurd q ho) (fun _ => ?_)⟩
      refine k_in (iI_long hw) jI_0 jI_100000 (by omega) (by omega) (by omega) (fun q => absurd hc q) (fun _ => br_n (by decide) ?_)
      refine k_in (iI_long hs) jI_1 jI_8 (by omega) (by omega) (by omega) (fun q => absurd hb q) (fun _ => br_n (by decide) ?_)
      refine k_free O hJ (by omega) (k_limM hJ (by omega) oP ?_)
      refine le_br (iI_add _ _) rfl (by omega) (by omega) (fun _ => ?_) (fun q => absurd hl q)
      obtain ⟨a, ha⟩ : ∃ a : Nat, enT (T i) r = (a : Int) := ⟨(enT (T i) r).toNat, by omega⟩
      obtain ⟨b, hb2⟩ : ∃ b : Nat, enT (T i) r + s - 1 = (b : Int) := ⟨(enT (T i) r + s - 1).toNat, by omega⟩
      have done : ∀ J2 : MI, MF m i J0 L J2 L → RM (addT (T i) r e (w + v) s) m i J2 L → iI (enT (T i) r) = iI (enT (T i) r) ∧ Rel (K + 1) G x m o Sh F J2 L := fun J2 mJ2 hJ2 => ⟨rfl, h.step hi _ hcf0 hR0 mJ2 hJ2 hok0⟩
      rcases hp with hp | hp
      · refine br_y hp ?_
        rw [if_pos hp] at hv
        have l1 := tOf_lt oP (c := a) (by omega) a12
        have l2 := tOf_lt oP (c := b) (by omega) a12
        have p2 := oP.2.1
        rw [ha] at hv ⊢
        rw [ha] at hb2
        rw [hb2] at hv
        rw [iI_add, iI_1, iI_sub, hb2]
        refine k_tmplM hJ (by omega) oP a12 (by omega) (by omega) (fun x27 e27 => ?_)
        have e27 : x27 = iI ((12 * i + tOf (T i) a : Nat) : Int) := by rw [e27]; exact ix_ok 12 i _
        refine ⟨in_ok e27 (by omega) (by omega), k_tmplM hJ (by omega) oP a12 (by omega) (by omega) (fun x32 e32 => ?_)⟩
        have e32 : x32 = iI ((12 * i + tOf (T i) b : Nat) : Int) := by rw [e32]; exact ix_ok 12 i _
        refine ⟨in_ok e32 (by omega) (by omega), ?_⟩
        unfold wp_X7_entry_123
        rw [nat_ok e27 (by omega), nat_ok e32 (by omega), hJ.i6 (by omega), hJ.i7 (by omega), iI_add, iI_add]
        rw [show T i 6 (tOf (T i) a) + T i 7 (tOf (T i) b) = v from hv.symm]
        rw [← ha]
        exact k_add O hb hl hJ (by omega) (fun J2 mJ2 hJ2 => done J2 (mJ.tr mJ2) hJ2)
      · refine br_n (by rw [hp]; decide) ?_
        rw [if_neg (by rw [hp]; decide)] at hv
        unfold wp_X7_entry_123
        rw [iI_0, iI_add, ← hv]
        exact k_add O hb hl hJ (by omega) (fun J2 mJ2 hJ2 => done J2 (mJ.tr mJ2) hJ2)
end OP7
