/-! combine. -/
theorem lft_congr {q m c : Nat} {dg : Nat → Nat} {l : Int} {O : Pl} {P : Nat → Pl} {M M1 : zM} (c8 : c < 8) (h : lft q m c dg l O P M) (e : ∀ a, 51 ≤ a → a ≤ 72 → M1 a = M a) : lft q m c dg l O P M1 := by
  obtain ⟨h1, h2, h3⟩ := h
  have eL : ∀ i, i < c → Lf M1 i = Lf M i := fun i hi => by
    show prP 8 (M1 (53 + i)) = prP 8 (M (53 + i))
    rw [e _ (by omega) (by omega)]
  refine ⟨by rw [e 51 (by decide) (by decide)]; exact h1, fun i hi => ?_, by rw [Q_congr eL]; exact h3⟩
  rw [eL i hi, e (53 + i) (by omega) (by omega)]
  exact h2 i hi
theorem dB_0 {dg : Nat → Nat} : ∀ c, dB (bS 0) dg c = 0
  | 0 => rfl
  | c + 1 => by
    rw [dB_f (fun y => ?_)]
    · exact dB_0 c
    · have : 0 / 2 ^ c % 2 = 1 := bS_t.mp y
      rw [Nat.zero_div] at this
      exact absurd this (by decide)
def cmI (a1 q c n : Nat) (O W : Pl) (M0 : zM) (N0 : zN) (S U : Nat) (M1 : zM) (N1 : zN) : Prop :=
  (∀ a, ¬ (74 ≤ a ∧ a ≤ 78) → ¬ (a1 + 2 ≤ a ∧ a < a1 + 9) → M1 a = M0 a) ∧ (∀ a, a ≠ a1 → a ≠ a1 + 9 → N1 a = N0 a) ∧ (∀ j, j ≠ 2 → N1 a1 j = N0 a1 j) ∧ U < 128 ∧ ∃ r n', N1 a1 2 = nI r ∧ cinv ((q + 2 : Nat) : Int) c n O W (Pt M0) S U r n' (prP 8 (M1 74)) (Fr a1 M1) (N1 (a1 + 9))
theorem s_comb1 {k15 : Int32 → Int32 → zM → zN → Prop} {a1 q c n w S U : Nat} {dg : Nat → Nat} {l : Int} {W O : Pl} {M M1 : zM} {N N1 : zN} (ha : zfac a1) (hW : wld W w) (h73 : prP 8 (M 73) = W) (dO : dvz O W) (pO : prim O) (hN : N 17 1 = nI c) (c1 : 1 ≤ c) (c8 : c < 8) (hc : cst ((q + 2 : Nat) : Int) c n dg l O (Pt M)) (l0 : 0 < l) (l1 : l < 100000) (n1 : 1 ≤ n) (n8 : n < 8)
    (hL : 2 ≤ c → ∃ m s, 1766335 ≤ m ∧ m < 340000000 ∧ m = (q + 2) ^ (s + 1) ∧ lft q m c dg l O (Pt M) M)
    (hI : cmI a1 q c n O W M N S U M1 N1) (S1 : 1 ≤ S) (hS : S < 2 ^ c)
    (next : ∀ U' M' N', cmI a1 q c n O W M N (S + 1) U' M' N' → k15 (nI U') (nI S + 1) M' N') :
    (¬ (nI S &&& nI U) = 0 → k15 (nI U) (nI S + (1 : Int32)) M1 N1) ∧ ((nI S &&& nI U) = 0 → w_Sp_degreeOfSet (nI S) M1 N1 (fun r8 => w_Ro_degreeOf 74 M1 (fun r11 => (r11 < ((2 : Int32) * r8) → k15 (nI U) (nI S + (1 : Int32)) M1 N1) ∧ (¬ r11 < ((2 : Int32) * r8) → w_Sp_splitOff (nI S) M1 N1 (fun r14 M15 => (r14 = 0 → k15 (nI U) (nI S + (1 : Int32)) M15 N1) ∧ (¬ r14 = 0 → w_Sp_timesInWhole 76 M15 (fun r17 M18 => zfac a1 ∧ w_Fa_insert a1 76 r17 M18 N1 (fun M21 N22 => ∀ x23 : Int32, x23 = nI U ||| nI S → k15 x23 (nI S + (1 : Int32)) M21 N22)))))))) := by
  have ha8 : a1 = 79 ∨ a1 = 89 := ha
  have h2c : 2 ^ c ≤ 2 ^ 7 := Nat.pow_le_pow_right (by decide) (show c ≤ 7 by omega)
  have h27 : (2 : Nat) ^ 7 = 128 := by decide
  have S8 : S < 128 := by omega
  have hir := hc.2.1
  have hds : dsum dg c = n := hc.2.2.1
  obtain ⟨i1, i2, i3, i4, r, n', i5, i6⟩ := hI
  obtain ⟨x1, x2, x3, x4, x5, x6, x7, x8, x9, x10, x11⟩ := id i6
  have dXW : dvz (prP 8 (M1 74)) W := dvz_trans x1 dO
  have eN : N1 17 1 = nI c := by rw [i2 17 (by omega) (by omega)]; exact hN
  have ePt : ∀ i, i < c → Pt M1 i = Pt M i := fun i hi => by
    show prP 8 (M1 (19 + i)) = prP 8 (M (19 + i))
    rw [i1 _ (by omega) (by omega)]
  -- the lead of what is left
  have hlX : ∃ l', (prP 8 (M1 74)).1 n' = l' ∧ 0 < l' ∧ l' < 100000 ∧ ¬ ((q + 2 : Nat) : Int) ∣ l' := by
    obtain ⟨v, hv⟩ := id x1
    obtain ⟨k', m', _, k1, k2, m1, m2, kk, a1, a2⟩ := cst_top hc hv
    have := top_u k1 k2 (by omega) x3
    subst this
    refine ⟨_, rfl, x2, ?_, a1⟩
    have hm0 : 0 < v.1 m' := by
      rcases Int.lt_or_le 0 (v.1 m') with y | y
      · exact y
      · exfalso
        have : (prP 8 (M1 74)).1 k' * v.1 m' ≤ 0 := Int.mul_nonpos_of_nonneg_of_nonpos (by omega) y
        omega
    have : (prP 8 (M1 74)).1 k' * 1 ≤ (prP 8 (M1 74)).1 k' * v.1 m' := Int.mul_le_mul_of_nonneg_left (by omega) (by omega)
    omega
  obtain ⟨l', lX, l'0, l'1, l'p⟩ := hlX
  have skip : ∀ M2 : zM, (∀ a, a ≠ 76 → a ≠ 77 → a ≠ 78 → M2 a = M1 a) → (∀ g k, dvz g (prP 8 (M1 74)) → prim g → 0 < g.1 k → dl (k + 1) g → 1 ≤ k → 2 * k ≤ n' → (∀ i, i < c → (dig 2 S i = 1 ↔ dvp ((q + 2 : Nat) : Int) (Pt M i) g)) → False) → k15 (nI U) (nI S + (1 : Int32)) M2 N1 := fun M2 f no => by
    refine next U M2 N1 ⟨fun a y z => by rw [f a (by omega) (by omega) (by omega)]; exact i1 a y z, i2, i3, i4, r, n', i5, ?_⟩
    have e1 : M2 74 = M1 74 := f 74 (by decide) (by decide) (by decide)
    have e2 : Fr a1 M2 = Fr a1 M1 := funext (fun i => by
      show prP 8 (M2 (a1 + 2 + i)) = prP 8 (M1 (a1 + 2 + i))
      rw [f _ (by omega) (by omega) (by omega)])
    rw [e1, e2]
    exact cinv_skip hS i6 no
  refine ⟨fun hne => skip M1 (fun _ _ _ _ => rfl) (fun g k a1 a2 a3 a4 a5 a6 a7 => ?_), fun _ => s_degreeOfSet (c := c) (dg := dg) S8 c8 eN (fun i hi => by rw [ePt i hi]; exact (hir i hi).1) (by omega) (s_Ro_degreeOf (n := 8) (by decide) (by decide) (by decide) ?_)⟩
  · refine hne ((and_0 S8 i4).mpr (fun i ⟨b1, b2⟩ => ?_))
    have hi := set_in hS b1
    exact (x6 i hi).mp (dvz_dvp a1 ((a7 i hi).mp b1)) b2
  have hd8 : dB (bS S) dg c ≤ n := by rw [← hds]; exact dB_le
  obtain ⟨d, hd⟩ : ∃ d, dB (bS S) dg c = d := ⟨_, rfl⟩
  rw [hd] at hd8
  rw [row_zdg (n := n') (by omega) (by omega) x3, pk_m1, hd, show (2 : Int32) = nI 2 from rfl, pk_mul]
  refine ⟨fun hlt => ?_, fun hnl => ?_⟩
  · rw [nI_ltI (by omega) (by omega)] at hlt
    refine skip M1 (fun _ _ _ _ => rfl) (fun g k a1 a2 a3 a4 a5 a6 a7 => ?_)
    have := cst_deg hc (dvz_trans a1 x1) (by omega) a4 a7
    omega
  have hdn : 2 * d ≤ n' := Nat.not_lt.mp (fun y => hnl (nI_lt y (by omega)))
  have c2 : 2 ≤ c := Nat.not_lt.mp (fun y => by
    have e1 : c = 1 := by omega
    subst e1
    have e2 : S = 1 := by omega
    subst e2
    have := dB_one (b := bS 1) (dg := dg) (i := 0) (by decide) (show 0 < 1 by decide)
    have e3 : dsum dg 1 = 0 + dg 0 := rfl
    omega)
  obtain ⟨m, s, m1, m2, m3, hlf⟩ := hL c2
  have hlf' := lft_congr c8 hlf (M1 := M1) (fun a y z => i1 a (by omega) (by omega))
  obtain ⟨f1, f2, f3⟩ := hlf'
  have em : (m : Int) = ((q + 2 : Nat) : Int) ^ (s + 1) := by rw [m3]; exact Int.natCast_pow _ _
  refine s_splitOff (w := w) (n' := n') (m := m) (c := c) (dg := dg) (l' := l') (d := d) hW S8 c8 eN (by omega) m2 f1 (fun i hi => ⟨(f2 i hi).1, (f2 i hi).2.1⟩) (by omega) dXW l'0 l'1 (by omega) lX x3 hd (fun M15 Y rr g1 g2 g3 g4 g5 g6 g7 => ⟨fun y => absurd y (by decide), fun _ => ?_⟩) (fun M15 g1 g2 => ⟨fun _ => ?_, fun y => absurd rfl y⟩)
  · -- a factor
    have hP : ∀ i, i < c → (dvp ((q + 2 : Nat) : Int) (Pt M i) (prP 8 (M15 76)) ↔ dig 2 S i = 1) := by
      refine cst_cand hc x1 g7 ?_ l'p g6 g2.2.2.2
      have y1 := g2.1
      rw [em, Int.pow_succ, Int.mul_comm] at y1
      exact cg_trans (cg_up y1) (cg_K (B_cg (fun i hi => (f2 i hi).2.2)))
    have iC := cinv_irz hc pO (by omega) hS i6 hd hdn g4 g5 g7 hP
    have dCO : dvz (prP 8 (M15 76)) O := dvz_trans (dvz_l g7) x1
    obtain ⟨kk, n'', kn, k1, k2, k3, k4, k5⟩ := dvz_top (by omega) x3 g7
    have := top_u k1 k2 (by omega) g5
    subst this
    have hXn : 0 < (prP 8 (M15 74)).1 n'' := by
      rcases Int.lt_or_le 0 ((prP 8 (M15 74)).1 n'') with y | y
      · exact y
      · exfalso
        have : (prP 8 (M15 76)).1 kk * (prP 8 (M15 74)).1 n'' ≤ 0 := Int.mul_nonpos_of_nonneg_of_nonpos (by omega) y
        omega
    refine s_timesInWhole (w := w) (d := kk) hW (by decide) (by decide) (W := W) (by rw [g1 73 (by decide) (by decide) (by decide) (by decide), i1 73 (by omega) (by omega)]; exact h73) rfl iC (dvz_trans dCO dO) (fun e M18 w1 w2 w3 => ⟨ha, ?_⟩)
    have e76 : M18 76 = M15 76 := w1 76 (by decide) (by decide) (by decide)
    have e74 : M18 74 = M15 74 := w1 74 (by decide) (by decide) (by decide)
    have eF : Fr a1 M18 = Fr a1 M1 := funext (fun i => by
      show prP 8 (M18 (a1 + 2 + i)) = prP 8 (M1 (a1 + 2 + i))
      rw [w1 _ (by omega) (by omega) (by omega), g1 _ (by omega) (by omega) (by omega) (by omega)])
    refine s_insert (T := Tf O W) ha (by decide) (by decide) (r := r) (by omega) i5 (Tf_pos hW dO) (by rw [eF]; exact x8) (by rw [eF]; exact x9) (by rw [e76]; exact ⟨kk, e, iC, dCO, w3, w2, rfl⟩) (fun i hi => ?_) (fun M21 N22 v1 v2 v3 v4 v5 v6 v7 x23 e23 => ?_)
    · rw [eF, e76]
      intro y
      exact x10 i hi (by rw [y]; exact dvz_l g7)
    · rw [nI_or i4 S8] at e23
      rw [e23]
      have e74' : M21 74 = M15 74 := by rw [v1 74 (by omega)]; exact e74
      refine next (U ||| S) M21 N22 ⟨fun a y z => ?_, fun a y z => by rw [v2 a y z]; exact i2 a y z, fun j hj => by rw [v3 j hj]; exact i3 j hj, Nat.or_lt_two_pow (n := 7) i4 S8, r + 1, n'', v4, ?_⟩
      · rw [v1 a z, w1 a (by omega) (by omega) (by omega), g1 a (by omega) (by omega) (by omega) (by omega)]
        exact i1 a y z
      · rw [e74']
        rw [eF, e76] at v7
        exact cinv_yes hc (by omega) hS i6 hdn iC w3 w2 g7 hP (by omega) hXn k4 v5 v6 v7
  · -- none
    refine skip M15 g1 (fun g k a1 a2 a3 a4 a5 a6 a7 => ?_)
    have ek := cst_deg hc (dvz_trans a1 x1) (by omega) a4 a7
    rw [hd] at ek
    subst ek
    obtain ⟨h, hh⟩ := id a1
    obtain ⟨k', mm, kn, k1, k2, k3, k4, k5⟩ := dvz_top (by omega) x3 hh
    have := top_u k1 k2 (by omega) a4
    subst this
    refine g2 g (h.1 mm) a1 a2 a3 a4 (by rw [← lX, ← k5, Int.mul_comm]) ?_ (fun i => ?_)
    · rw [em]
      exact cst_lift hc (fun i hi => ⟨(f2 i hi).1, (f2 i hi).2.2⟩) (by rw [← em]; exact f3) (dvz_trans a1 x1) (by omega) a4 a7
    · have := cst_bnd (k := 0) hW dXW hh (dl_mono (by omega) a4) k3 k4 i
      omega
theorem s_combine {K : zM → zN → Prop} {a1 q c n w : Nat} {dg : Nat → Nat} {l : Int} {W O : Pl} {M : zM} {N : zN} (ha : zfac a1) (hW : wld W w) (h73 : prP 8 (M 73) = W) (h74 : prP 8 (M 74) = O) (dO : dvz O W) (pO : prim O) (hN : N 17 1 = nI c) (c1 : 1 ≤ c) (c8 : c < 8) (hc : cst ((q + 2 : Nat) : Int) c n dg l O (Pt M)) (l0 : 0 < l) (l1 : l < 100000) (n1 : 1 ≤ n) (n8 : n < 8) (h0 : N a1 2 = nI 0)
    (hL : 2 ≤ c → ∃ m s, 1766335 ≤ m ∧ m < 340000000 ∧ m = (q + 2) ^ (s + 1) ∧ lft q m c dg l O (Pt M) M)
    (k : ∀ (r : Nat) (M' : zM) (N' : zN), (∀ a, ¬ (74 ≤ a ∧ a ≤ 78) → ¬ (a1 + 2 ≤ a ∧ a < a1 + 9) → M' a = M a) → (∀ a, a ≠ a1 → a ≠ a1 + 9 → N' a = N a) → (∀ j, j ≠ 2 → N' a1 j = N a1 j) → 1 ≤ r → r ≤ 7 → N' a1 2 = nI r → fac O W r (Fr a1 M') (N' (a1 + 9)) → K M' N') : w_Sp_combine a1 M N K := by
  have ha8 : a1 = 79 ∨ a1 = 89 := ha
  intro x1 e1
  rw [hN, shl_c c8] at e1
  subst e1
  have h2c : 2 ^ c ≤ 2 ^ 7 := Nat.pow_le_pow_right (by decide) (show c ≤ 7 by omega)
  have h27 : (2 : Nat) ^ 7 = 128 := by decide
  have h20 : 0 < 2 ^ c := Nat.pow_pos (by decide)
  have key : ∀ u S U (M1 : zM) (N1 : zN), S + u = 2 ^ c → 1 ≤ S → cmI a1 q c n O W M N S U M1 N1 → L_Sp_combine_15 K a1 (nI (2 ^ c)) (u + 1) (nI U) (nI S) M1 N1 := by
    intro u
    induction u with
    | zero =>
      intro S U M1 N1 hS S1 hI
      have eS : S = 2 ^ c := by omega
      subst eS
      obtain ⟨i1, i2, i3, i4, r, n', i5, i6⟩ := hI
      refine ⟨fun _ => ?_, fun y => absurd (Int32.le_refl _) y⟩
      have iX := cinv_end pO i6
      obtain ⟨x1, x2, x3, x4, x5, x6, x7, x8, x9, x10, x11⟩ := id i6
      refine s_timesInWhole (w := w) (d := n') hW (by decide) (by decide) (W := W) (by rw [i1 73 (by omega) (by omega)]; exact h73) rfl iX (dvz_trans x1 dO) (fun e M18 w1 w2 w3 => ⟨ha, ?_⟩)
      have e74 : M18 74 = M1 74 := w1 74 (by decide) (by decide) (by decide)
      have eF : Fr a1 M18 = Fr a1 M1 := funext (fun i => by
        show prP 8 (M18 (a1 + 2 + i)) = prP 8 (M1 (a1 + 2 + i))
        rw [w1 _ (by omega) (by omega) (by omega)])
      refine s_insert (T := Tf O W) ha (by decide) (by decide) (r := r) (by omega) i5 (Tf_pos hW dO) (by rw [eF]; exact x8) (by rw [eF]; exact x9) (by rw [e74]; exact ⟨n', e, iX, x1, w3, w2, rfl⟩) (fun i hi => ?_) (fun M21 N22 v1 v2 v3 v4 v5 v6 v7 => ?_)
      · rw [eF, e74]
        intro y
        exact x10 i hi (by rw [y]; exact dvz_refl)
      · rw [eF, e74] at v7
        refine k (r + 1) M21 N22 (fun a y z => ?_) (fun a y z => by rw [v2 a y z]; exact i2 a y z) (fun j hj => by rw [v3 j hj]; exact i3 j hj) (by omega) (by omega) v4 (cinv_fac pO i6 v5 v6 v7)
        rw [v1 a z, w1 a (by omega) (by omega) (by omega)]
        exact i1 a y z
    | succ u ih =>
      intro S U M1 N1 hS S1 hI
      refine ⟨fun y => absurd y (nI_ge (by omega) (by omega)), fun _ => s_comb1 ha hW h73 dO pO hN c1 c8 hc l0 l1 n1 n8 hL hI S1 (by omega) (fun U' M' N' h => ?_)⟩
      rw [nI_1]
      exact ih (S + 1) U' M' N' (by omega) (by omega) h
  have hnz := cst_nz hc
  have hO : O.1 n = l := hc.2.2.2.2.2.2.2.1
  refine ⟨2 ^ c - 1 + 1, key (2 ^ c - 1) 1 0 M N (by omega) (Nat.le_refl _) ⟨fun _ _ _ => rfl, fun _ _ _ => rfl, fun _ _ => rfl, by decide, 0, n, h0, ?_⟩⟩
  rw [h74]
  refine ⟨dvz_refl, by omega, hc.2.2.2.2.2.2.2.2, n1, by omega, fun i hi => ⟨fun _ y => ?_, fun _ => ?_⟩, fun g k' T a1 a2 a3 a4 a5 a6 a7 a8 => ?_, fun i j _ hj => absurd hj (Nat.not_lt_zero _), fun i hi => absurd hi (Nat.not_lt_zero _), fun i hi => absurd hi (Nat.not_lt_zero _), fun g d _ hg => Or.inr hg⟩
  · have : 0 / 2 ^ i % 2 = 1 := y
    rw [Nat.zero_div] at this
    exact absurd this (by decide)
  · refine dvp_cg (dvp_Ml ?_) hc.2.2.2.2.1
    exact Q_dvp hi
  · refine Nat.one_le_iff_ne_zero.mpr (fun eT => ?_)
    have := cst_deg hc a1 (by omega) a4 a8
    subst eT
    have e0 : dB (bS 0) dg c = 0 := dB_0 c
    omega
