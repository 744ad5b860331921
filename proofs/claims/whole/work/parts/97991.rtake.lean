/-! takeApart, prepare and factor of the reference. -/
theorem rfin_sam {O : Pl} {r : Nat} {F G : Nat → Pl} (h : rfin O r G) (s : sam r F G) : rfin O r F := by
  obtain ⟨a, b, c⟩ := s
  refine ⟨fun i hi => ?_, c, fun g d hg hgO => ?_⟩
  · obtain ⟨j, j1, j2⟩ := a i hi
    rw [j2]
    exact h.1 j j1
  · obtain ⟨j, j1, j2⟩ := h.2.2 g d hg hgO
    obtain ⟨i, i1, i2⟩ := b j j1
    exact ⟨i, i1, by rw [j2, i2]⟩
theorem s_Mo_takeApart {K : zM → zN → Prop} {w n p : Nat} {W O : Pl} {M : zM} {N : zN} (hgr : zgr N) (h4 : prP 16 (M 104) = W) (w8 : w < 8) (W1 : 0 < W.1 w) (W2 : dl (w + 1) W) (hop : 1 ≤ w → wld W w ∧ opn W w O n p)
    (k0 : w = 0 → K M (zpui N 99 6 0))
    (k : 1 ≤ w → ∀ (r : Nat) (M' : zM) (N' : zN), (∀ a, ¬ (103 ≤ a ∧ a ≤ 117) ∨ a = 104 → M' a = M a) → (∀ a, a ≠ 99 → N' a = N a) → (∀ j, j ≠ 6 → N' 99 j = N 99 j) → N' 99 6 = nI r → 1 ≤ r → r ≤ 7 → rfin O r (Nf M') → srt (Nf M') r → K M' N') : w_Mo_takeApart M N K := by
  intro N1 e1
  refine s_Mo_degreeOf (by decide) ?_
  rw [row_zdg16 (n := w) (by omega) (by rw [h4]; omega) (by rw [h4]; exact W2), pk_m1]
  refine ⟨fun c => ?_, fun c => ?_⟩
  rotate_left
  · rw [e1]
    refine k0 (Nat.le_zero.mp (Nat.not_lt.mp (fun x => c ?_)))
    exact (nI_leI (a := 1) (by decide) (by omega)).mpr x
  have w1 : 1 ≤ w := (nI_leI (a := 1) (by decide) (by omega)).mp c
  obtain ⟨hW, ho⟩ := hop w1
  obtain ⟨dO, pO, O1, Ol, O2, nn1, nw, hpm, hpl, hsq⟩ := opn_f hW ho
  obtain ⟨G, v, g, hgz, G1, G2, gn, _, _, _, hfp⟩ := id ho
  have Wb := hW.2.2.2.2.2
  have v4 : ∀ i, i < 16 → (M 104 i).toInt = W.1 i := fun i hi => by rw [← h4]; exact (pr_lt hi).symm
  refine s_Mo_derivative (by decide) (by decide) (by decide) (fun M6 f1 f2 f3 => ?_)
  have eT : prP 16 (M6 107) = plT W := by
    rw [← h4]
    exact row_T (by decide) (by decide) (fun i hi => by have := Wb i; rw [← v4 i hi] at this; unfold ab at this; omega) f2 f3
  have v7 : ∀ i, i < 16 → (M6 107 i).toInt = (plT W).1 i := fun i hi => by rw [← eT]; exact (pr_lt hi).symm
  have b7 : ∀ i, i < 16 → zab (M6 107 i) ≤ 1599984 := fun i hi => by
    have := T_bnd hW i
    rw [← v7 i hi] at this
    unfold ab at this
    unfold zab
    omega
  obtain ⟨T1, T2⟩ := wld_T hW
  refine s_Mo_contentOf (by decide) (fun i hi => by have := b7 i hi; omega) ?_
  have c0 : 0 < zgc (M6 107) 16 := zgc_pos (i := w - 1) (by omega) (fun x => T1 (by
    rw [← v7 (w - 1) (by omega), x]; rfl))
  have c1 := zgc_le (f := M6 107) (B := 1599984) 16 b7
  have cd : ∀ i, i < 16 → (zgc (M6 107) 16 : Int) ∣ (M6 107 i).toInt := fun i hi => Int.dvd_natAbs.mp (Int.ofNat_dvd.mpr (zgc_dvd (f := M6 107) hi))
  generalize hc : zgc (M6 107) 16 = cc at c0 c1 cd ⊢
  have ic : (lN cc).toInt = (cc : Int) := pk_lT (by omega)
  refine s_Mo_scale (by decide) (fun x => ?_) (fun M12 g1 g2 => ?_)
  · have := (pk_lEQ (a := cc) (b := 0) (by omega) (by decide)).mp x
    omega
  have vB : ∀ i, (plT W).1 i = (cc : Int) * (prP 16 (M12 107)).1 i := fun i => by
    rcases Nat.lt_or_ge i 16 with q | q
    · rw [show (prP 16 (M12 107)).1 i = (M12 107 i).toInt from pr_lt q, g2 i q]
      obtain ⟨y, hy⟩ := cd i q
      have bb := b7 i q
      unfold zab at bb
      rw [zq_exact (q := y) (by omega) (by rw [ic]; omega) (by rw [hy, ic, Int.mul_comm]), ← hy]
      exact (v7 i q).symm
    · rw [show (prP 16 (M12 107)).1 i = 0 from pr_ge q, Int.mul_zero]
      exact T2 i (by omega)
  have e124 : prP 16 (M12 104) = W := by rw [g1 104 (by decide), f1 104 (by decide)]; exact h4
  obtain ⟨a', b', hok⟩ := gall_slope hgz (by omega) W2 T1 T2 G1 G2 (by omega) (by omega) Wb (T_bnd hW) W (prP 16 (M12 107)) 1 cc (by decide) (by omega) (fun i => (Int.one_mul _).symm) vB
  refine s_Mo_share (by decide) (by decide) (by decide) (by decide) (by rw [e1]; exact fun j hj => by rw [zpui_ne (by decide)]; exact hgr j hj) (by rw [e124]; exact hok) (fun M15 s1 s2 => ?_)
  have e13 : prP 16 (M15 113) = G := pl_ext (fun i => by
    show pr 16 (M15 113) i = G.1 i
    rcases Nat.lt_or_ge i 16 with c | c
    · rw [pr_lt c, s2 i c]
    · rw [pr_ge c, G2 i (by omega)])
  have e154 : prP 16 (M15 104) = W := by rw [s1 104 (by decide) (by decide)]; exact e124
  have dG : dvz G W := dvz_l hgz.2.1
  obtain ⟨bG, _, kG, kG7, kG1, kG2⟩ := wld_b hW dG
  refine s_md hW (by decide) (by decide) (by decide) (by decide) (by decide) (by decide) (by rw [e154]; exact dvz_refl) (fun i hi => ?_) (by rw [row_zdg16 (n := kG) (by omega) (by rw [e13]; exact kG1) (by rw [e13]; exact kG2)]; omega) (fun M18 t1 t2 => ⟨fun c => absurd c (by decide), fun _ => ?_⟩) (fun M18 t1 t2 => absurd (by rw [e13, e154]; exact dG) t2)
  · have := bG i
    rw [← e13, show (prP 16 (M15 113)).1 i = (M15 113 i).toInt from pr_lt hi] at this
    omega
  · have e10 : prP 16 (M18 110) = O := ev_ext (pl_eqc (G := G) ⟨g, by omega⟩ (fun x => by
      have := t2 x
      rw [e13, e154] at this
      rw [← this]
      exact hgz.2.1 x))
    refine s_Mo_copy (by decide) (by decide) (by decide) (fun M21 u1 u2 => ?_)
    refine s_split (w := w) (W := W) (O := O) (n0 := n) (p := p) hW dO pO (by rw [prP_congr u2]; exact e10) nn1 (by omega) O1 Ol O2 hfp (fun r M24 N25 q1 q2 q3 q4 q5 q6 q7 => ?_)
    refine s_sort q6 q4 q7.2.1 (fun i hi => ?_) (fun M27 y1 y2 y3 => ?_)
    · obtain ⟨d, hd, hdO⟩ := q7.1 i hi
      obtain ⟨_, _, kk, kk1, kk2, kk3⟩ := wld_b hW (dvz_trans hdO dO)
      have := top_u kk2 kk3 (by have := hd.2.1; omega) hd.2.2.1
      exact ⟨d, by omega, hd.2.1, hd.2.2.1⟩
    · refine k w1 r M27 N25 (fun a x => ?_) (fun a x => ?_) (fun j x => ?_) q4 q5 q6 (rfin_sam q7 y3) y2
      · rw [y1 a (by omega), q1 a x, u1 a (by omega), t1 a (by omega) (by omega), s1 a (by omega) (by omega), g1 a (by omega), f1 a (by omega)]
      · rw [q2 a x, e1, zpui_ne x]
      · rw [q3 j x, e1, zpui_n2 x]
theorem s_prepare {K : Int32 → zM → Prop} {r n0 : Nat} {M M0 : zM} {N N0 : zN} {cc : Int64} {W : Pl} (hI : zreg M0 N0) (hNr : N 100 = N0 100) (hr : r < 4) (hd : zdg (M0 (2 + r)) 8 = n0 + 1) (hcc : cc.toInt.natAbs = zgc (M0 (2 + r)) 8) (row : ∀ i, i < 8 → (M0 (2 + r) i).toInt = cc.toInt * W.1 i) (W1 : 0 < W.1 n0) (W2 : dl (n0 + 1) W)
    (k : ∀ M' : zM, (∀ a, a ≠ 104 → M' a = M a) → prP 16 (M' 104) = W → K cc.toInt32 M') : w_Mo_prepare (nI r) M N K := by
  obtain ⟨n08, hnz, hz⟩ := zdg_s hd
  have hzl : zld N r = zld N0 r := by unfold zld; rw [hNr]
  refine s_Mo_load hr (by decide) (fun M2 f1 f2 => ?_)
  rw [hzl] at f2
  obtain ⟨u4, w4⟩ := zld_row (M' := M2) (c := 104) hI hr f2
  have bb : ∀ i, i < 16 → zab (M2 104 i) ≤ 99999 := fun i hi => by
    rcases Nat.lt_or_ge i 8 with c | c
    · rw [u4 i c]; exact z_regab hI hr c
    · rw [w4 i c hi]; decide
  have ec : zgc (M2 104) 16 = zgc (M0 (2 + r)) 8 := by rw [zgc_up (n := 8) (by decide) w4]; exact zgc_congr 8 u4
  have cpos := zgc_pos (f := M0 (2 + r)) n08 hnz
  have cle := zgc_le (f := M0 (2 + r)) (B := 99999) 8 (fun i hi => z_regab hI hr hi)
  have c0 : cc.toInt ≠ 0 := fun x => by omega
  refine s_Mo_contentOf (by decide) (fun i hi => by have := bb i hi; omega) (s_Mo_degreeOf (by decide) ?_)
  rw [ec, zdg_up (n := 8) (by decide) w4, zdg_congr u4, hd, pk_m1]
  have hJ : ∀ t0 : Int64, t0 = cc → J_Mo_prepare_40 K t0 M2 N := fun t0 et => by
    rw [et]
    refine s_Mo_scale (by decide) (fun x => c0 (by rw [x]; rfl)) (fun M11 g1 g2 => k M11 (fun a x => by rw [g1 a x]; exact f1 a x) (pl_ext (fun i => ?_)))
    show pr 16 (M11 104) i = W.1 i
    rcases Nat.lt_or_ge i 16 with c | c
    · rw [pr_lt c, g2 i c]
      have b1 := bb i c
      unfold zab at b1
      refine zq_exact (by omega) c0 ?_
      rcases Nat.lt_or_ge i 8 with q | q
      · rw [u4 i q, row i q, Int.mul_comm]
      · rw [w4 i q c, W2 i (by omega), Int.zero_mul]; rfl
    · rw [pr_ge c, W2 i (by omega)]
  have e0 := row n0 n08
  have eln : (lN (zgc (M0 (2 + r)) 8)).toInt = (zgc (M0 (2 + r)) 8 : Int) := pk_lT (by omega)
  refine ⟨vp_in_nI (N := 16) (by omega) (by decide), ?_⟩
  rw [nI_clamp (by omega), u4 n0 n08]
  refine ⟨fun c => hJ _ ?_, fun c => hJ _ ?_⟩
  · rw [Int64.le_iff_toInt_le] at c
    have c' : (0 : Int) ≤ (M0 (2 + r) n0).toInt := c
    have : 0 < cc.toInt := by
      rcases Int.lt_or_le 0 cc.toInt with y | y
      · exact y
      · exfalso
        have : cc.toInt * W.1 n0 < 0 := Int.mul_neg_of_neg_of_pos (by omega) W1
        omega
    rw [← Int64.toInt_inj, eln]
    omega
  · rw [Int64.le_iff_toInt_le] at c
    have c' : ¬ (0 : Int) ≤ (M0 (2 + r) n0).toInt := c
    have : cc.toInt < 0 := by
      rcases Int.lt_or_le cc.toInt 0 with y | y
      · exact y
      · exfalso
        have : 0 ≤ cc.toInt * W.1 n0 := Int.mul_nonneg y (by omega)
        omega
    rw [← Int64.toInt_inj, zx_neg (by rw [eln]; omega), eln]
    omega
theorem s_fac112 {P : Int32 → zM → zN → Prop} {N : zN} {M : zM} (k : ∀ M' : zM, (∀ a, a ≠ 102 → M' a = M a) → (∀ j, j < 56 → M' 102 j = M 103 j) → P (N 99 3) M' N) : ∃ f, L_Mo_factor_112 P N f (0 : Int32) M := by
  have key : ∀ u j (M1 : zM), j + u = 56 → (∀ a, a ≠ 102 → M1 a = M a) → (∀ i, i < j → M1 102 i = M 103 i) → L_Mo_factor_112 P N (u + 1) (nI j) M1 := by
    intro u
    induction u with
    | zero =>
      intro j M1 hj g1 g2
      have : j = 56 := by omega
      subst this
      exact ⟨fun _ => k M1 g1 g2, fun c => absurd (Int32.le_refl _) c⟩
    | succ u ih =>
      intro j M1 hj g1 g2
      refine ⟨fun c => absurd c (nI_ge (b := 56) (by omega) (by omega)), fun _ => ⟨vp_in_nI (N := 56) (by omega) (by decide), vp_in_nI (N := 56) (by omega) (by decide), fun M24 e24 => ?_⟩⟩
      rw [nI_clamp (by omega), g1 103 (by decide)] at e24
      rw [e24, nI_1]
      refine ih (j + 1) _ (by omega) (fun a x => by rw [zput_ne x]; exact g1 a x) (fun i hi => ?_)
      by_cases c : i = j
      · subst c; rw [zput_eq]
      · rw [zput_n2 c]; exact g2 i (by omega)
  exact ⟨57, key 56 0 M (by decide) (fun _ _ => rfl) (fun i hi => absurd hi (Nat.not_lt_zero _))⟩
theorem s_fac85 {P : Int32 → zM → zN → Prop} {w rr : Nat} {W O : Pl} {M : zM} {N : zN} (hW : wld W w) (dO : dvz O W) (hA : prP 16 (M 104) = W) (hr : rr ≤ 7) (hN : N 99 3 = nI rr) (hf : rfin O rr (Nf M)) (hs : srt (Nf M) rr)
    (k : ∀ (M' : zM) (N' : zN), (∀ a, a ≠ 102 → a ≠ 104 → a ≠ 106 → a ≠ 109 → a ≠ 110 → M' a = M a) → (∀ a, a ≠ 101 → N' a = N a) → fac O W rr (Nf M') (N' 101) → (∀ j, j < 56 → M' 102 j = M' 103 j) → P (nI rr) M' N') : ∃ f, L_Mo_factor_85 P f (0 : Int32) M N := by
  have eNf : ∀ M1 : zM, M1 103 = M 103 → Nf M1 = Nf M := fun M1 e => funext (fun i => by
    show prP 8 (fun k => M1 103 (8 * i + k)) = prP 8 (fun k => M 103 (8 * i + k))
    rw [e])
  have key : ∀ u i (M1 : zM) (N1 : zN), i + u = rr → (∀ a, a ≠ 104 → a ≠ 106 → a ≠ 109 → a ≠ 110 → M1 a = M a) → (∀ a, a ≠ 101 → N1 a = N a) → dvz (prP 16 (M1 104)) W → (∀ j, i ≤ j → j < rr → ∀ e, mlt (Nf M j) (prP 16 (M1 104)) e → mlt (Nf M j) W e) → (∀ j, j < i → Tf O W (Nf M j) (N1 101 j)) → L_Mo_factor_85 P (u + 1) (nI i) M1 N1 := by
    intro u
    induction u with
    | zero =>
      intro i M1 N1 hi g1 g2 g3 g4 g5
      have : i = rr := by omega
      subst this
      have e3 : N1 99 3 = nI i := by rw [g2 99 (by decide)]; exact hN
      refine ⟨fun _ => s_fac112 (fun M' f1 f2 => ?_), fun c => absurd (by rw [e3]; exact Int32.le_refl _) c⟩
      rw [e3]
      have e103 : M' 103 = M 103 := by rw [f1 103 (by decide)]; exact g1 103 (by decide) (by decide) (by decide) (by decide)
      refine k M' N1 (fun a x y z t s => by rw [f1 a x]; exact g1 a y z t s) g2 ?_ (fun j hj => by rw [f2 j hj, f1 103 (by decide)])
      rw [eNf M' e103]
      exact ⟨hs, g5, hf.2.2⟩
    | succ u ih =>
      intro i M1 N1 hi g1 g2 g3 g4 g5
      have e3 : N1 99 3 = nI rr := by rw [g2 99 (by decide)]; exact hN
      have e103 : M1 103 = M 103 := g1 103 (by decide) (by decide) (by decide) (by decide)
      obtain ⟨d, hd, hdO⟩ := hf.1 i (by omega)
      refine ⟨fun c => ?_, fun _ => ?_⟩
      · rw [e3] at c
        exact absurd c (nI_ge (by omega) (by omega))
      · refine s_often (W := W) (F := Nf M i) (A := prP 16 (M1 104)) (d := d) hW (by omega) rfl g3 (by rw [eNf M1 e103]) hd (dvz_trans hdO dO) (fun e M21 f1 e7 f2 f3 => ⟨vp_in_nI (N := 7) (by omega) (by decide), fun N23 e23 => ?_⟩)
        rw [nI_clamp (by omega)] at e23
        rw [nI_1]
        have hm : mlt (Nf M i) W e := g4 i (Nat.le_refl _) (by omega) e ⟨_, f2, f3⟩
        refine ih (i + 1) M21 N23 (by omega) (fun a x y z t => by rw [f1 a x y z t]; exact g1 a x y z t) (fun a x => by rw [e23, zpui_ne x]; exact g2 a x) (dvz_trans (dvz_r (a := plP (Nf M i) e) (fun x => by rw [ev_P]; exact f2 x)) g3) (fun j hj hjr e' he' => ?_) (fun j hj => ?_)
        · obtain ⟨d', hd', _⟩ := hf.1 j hjr
          exact g4 j (by omega) hjr e' (mlt_other hd' hd (fun x => hf.2.1 i j (by omega) hjr x.symm) f2 he')
        · by_cases c : j = i
          · subst c
            rw [e23, zpui_eq]
            exact ⟨d, e, hd, hdO, hm, e7, rfl⟩
          · rw [e23, zpui_n2 c]
            exact g5 j (by omega)
  exact ⟨rr + 1, key rr 0 M N (by omega) (fun _ _ _ _ _ => rfl) (fun _ _ => rfl) (by rw [hA]; exact dvz_refl) (fun j _ _ e he => by rw [hA] at he; exact he) (fun j hj => absurd hj (Nat.not_lt_zero _))⟩
theorem s_Mo_factor {P : Int32 → zM → zN → Prop} {r n0 n p : Nat} {M M0 : zM} {N N0 : zN} {cc : Int64} {W O : Pl} (hI : zreg M0 N0) (hNr : N 100 = N0 100) (hgr : zgr N) (hr : r < 4) (hd : zdg (M0 (2 + r)) 8 = n0 + 1) (hcc : cc.toInt.natAbs = zgc (M0 (2 + r)) 8) (row : ∀ i, i < 8 → (M0 (2 + r) i).toInt = cc.toInt * W.1 i) (W1 : 0 < W.1 n0) (W2 : dl (n0 + 1) W) (hop : 1 ≤ n0 → wld W n0 ∧ opn W n0 O n p)
    (k : ∀ (rr : Nat) (M' : zM) (N' : zN), (∀ a, ¬ (102 ≤ a ∧ a ≤ 117) → M' a = M a) → (∀ a, a ≠ 99 → a ≠ 101 → N' a = N a) → N' 99 0 = 0 → N' 99 2 = cc.toInt32 → N' 99 3 = nI rr → rr ≤ 7 → (n0 = 0 → rr = 0) → (1 ≤ n0 → fac O W rr (Nf M') (N' 101)) → (∀ j, j < 56 → M' 102 j = M' 103 j) → P (nI rr) M' N') : w_Mo_factor (nI r) M N P := by
  obtain ⟨n08, hnz, hz⟩ := zdg_s hd
  refine s_isReg (fun _ => ⟨fun h => absurd h (by decide), fun _ N4 e4 => ?_⟩) (fun h => absurd ⟨r, hr, rfl⟩ h)
  have z4 : N4 99 0 = 0 := by rw [e4, zpui_eq]
  rw [z4]
  refine ⟨fun _ => s_Mo_load hr (by decide) (fun M6 f1 f2 => s_Mo_degreeOf (by decide) ?_), fun c => absurd (by decide) c⟩
  have hzl : zld N4 r = zld N0 r := by unfold zld; rw [e4, zpui_ne (by decide), hNr]
  rw [hzl] at f2
  obtain ⟨u6, w6⟩ := zld_row (M' := M6) (c := 106) hI hr f2
  rw [zdg_up (n := 8) (by decide) w6, zdg_congr u6, hd, pk_m1]
  refine ⟨fun _ N11 e11 => ?_, fun c => absurd (nI_pos' (by omega)) c⟩
  have z11 : N11 99 0 = 0 := by rw [e11, zpui_eq]
  rw [z11]
  refine ⟨fun _ => ?_, fun c => absurd (by decide) c⟩
  refine s_prepare (M0 := M0) (N0 := N0) (W := W) (cc := cc) hI (by rw [e11, zpui_ne (by decide), e4, zpui_ne (by decide)]; exact hNr) hr hd hcc row W1 W2 (fun M13 g1 g2 N15 e15 => ?_)
  have fN : ∀ a, a ≠ 99 → N15 a = N a := fun a x => by rw [e15, zpui_ne x, e11, zpui_ne x, e4, zpui_ne x]
  have a2 : N15 99 2 = cc.toInt32 := by rw [e15, zpui_eq]
  have a0 : N15 99 0 = 0 := by rw [e15, zpui_n2 (by decide)]; exact z11
  have frM : ∀ a, ¬ (102 ≤ a ∧ a ≤ 117) → M13 a = M a := fun a x => by rw [g1 a (by omega), f1 a (by omega)]
  refine s_Mo_takeApart (w := n0) (W := W) (O := O) (n := n) (p := p) (fun j hj => by rw [fN 118 (by decide)]; exact hgr j hj) g2 n08 W1 W2 hop (fun h0 N19 e19 => ?_) (fun h1 rr M17 N18 q1 q2 q3 q4 q5 q6 q7 q8 N19 e19 => ?_)
  · have e3 : N19 99 3 = nI 0 := by rw [e19, zpui_eq, zpui_eq]; rfl
    refine ⟨1, ⟨fun _ => s_fac112 (fun M' v1 v2 => ?_), fun c => absurd (by rw [e3]; exact Int32.le_refl _) c⟩⟩
    rw [e3]
    refine k 0 M' N19 (fun a x => by rw [v1 a (by omega)]; exact frM a x) (fun a x _ => by rw [e19, zpui_ne x, zpui_ne x]; exact fN a x) ?_ ?_ e3 (by decide) (fun _ => rfl) (fun x => by omega) (fun j hj => by rw [v2 j hj, v1 103 (by decide)])
    · rw [e19, zpui_n2 (by decide), zpui_n2 (by decide)]; exact a0
    · rw [e19, zpui_n2 (by decide), zpui_n2 (by decide)]; exact a2
  · obtain ⟨hW, ho⟩ := hop h1
    obtain ⟨dO, _⟩ := opn_f hW ho
    have e3 : N19 99 3 = nI rr := by rw [e19, zpui_eq]; exact q4
    have frN : ∀ a, a ≠ 99 → N19 a = N a := fun a x => by rw [e19, zpui_ne x, q2 a x]; exact fN a x
    refine s_fac85 (W := W) (O := O) (w := n0) hW dO (by rw [q1 104 (by omega)]; exact g2) q6 e3 q7 q8 (fun M' N' v1 v2 v3 v4 => ?_)
    refine k rr M' N' (fun a x => by rw [v1 a (by omega) (by omega) (by omega) (by omega) (by omega), q1 a (by omega)]; exact frM a x) (fun a x y => by rw [v2 a y]; exact frN a x) ?_ ?_ ?_ q6 (fun x => by omega) (fun _ => v3) v4
    · rw [v2 99 (by decide), e19, zpui_n2 (by decide), q3 0 (by decide)]; exact a0
    · rw [v2 99 (by decide), e19, zpui_n2 (by decide), q3 2 (by decide)]; exact a2
    · rw [v2 99 (by decide)]; exact e3
