/-! takeApart of the class. -/
def opn (W : Pl) (w : Nat) (O : Pl) (n p : Nat) : Prop := ∃ (G v : Pl) (g : Nat), gz W (plT W) G O v ∧ 0 < G.1 g ∧ dl (g + 1) G ∧ g + n = w ∧ 1 ≤ n ∧ 0 < O.1 n ∧ dl (n + 1) O ∧ fst_p O n p
theorem T_bnd {W : Pl} {w : Nat} (hW : wld W w) (i : Nat) : ab ((plT W).1 i) ≤ (i + 1) * 99999 := by
  show ab (((i : Int) + 1) * W.1 (i + 1)) ≤ _
  rw [ab_mul]
  have h1 := hW.2.2.2.2.2 (i + 1)
  have h2 : ab ((i : Int) + 1) = (i : Int) + 1 := by unfold ab; omega
  rw [h2]
  exact Int.mul_le_mul_of_nonneg_left h1 (by omega)
theorem wld_T {W : Pl} {w : Nat} (hW : wld W w) : (plT W).1 (w - 1) ≠ 0 ∧ dl (w - 1 + 1) (plT W) := by
  obtain ⟨_, h2, h3, h4, _, _⟩ := hW
  have e : w - 1 + 1 = w := by omega
  refine ⟨?_, by rw [e]; exact dl_T h3⟩
  show (((w - 1 : Nat) : Int) + 1) * W.1 (w - 1 + 1) ≠ 0
  rw [e]
  exact Int.mul_ne_zero (by omega) (by omega)
theorem opn_ex {W : Pl} {w : Nat} (hW : wld W w) : ∃ O n p, opn W w O n p := by
  obtain ⟨h1, h2, h3, h4, h5, h6⟩ := id hW
  obtain ⟨G0, a0, b0, u, v, c, hb1, hb2, hb3, hb4, hb5⟩ := bezout (A := W) (B := plT W) ⟨w, by omega⟩
  obtain ⟨G, O, b, g, hgz, G1, G2⟩ := gz_pos (show gz W (plT W) G0 a0 b0 from ⟨hb1, hb3, hb4, u, v, c, hb2, hb5⟩)
  obtain ⟨s1, s2, s3, s4⟩ := good_small hgz h1 (by omega) h3 h4 h5 (nm_reg (dl_mono (by omega) h3) h6) (nm_slope (dl_mono (by omega) (dl_T h3)) (T_bnd hW)) (by omega) G2
  obtain ⟨p, hp⟩ := fst_ex s4
  refine ⟨O, w - g, p, G, b, g, hgz, G1, G2, by omega, by omega, ?_, s3, hp⟩
  have e : W.1 w = G.1 g * O.1 (w - g) := by
    have e1 : W = plM G O := ev_ext (fun x => by rw [ev_M]; exact hgz.2.1 x)
    have e2 := plM_top G2 s3
    rw [← e1, show g + (w - g) = w by omega] at e2
    exact e2
  rcases Int.lt_or_le 0 (O.1 (w - g)) with y | y
  · exact y
  · exfalso
    have : G.1 g * O.1 (w - g) ≤ 0 := Int.mul_nonpos_of_nonneg_of_nonpos (by omega) y
    omega
theorem opn_f {W O : Pl} {w n p : Nat} (hW : wld W w) (h : opn W w O n p) : dvz O W ∧ prim O ∧ 0 < O.1 n ∧ O.1 n < 100000 ∧ dl (n + 1) O ∧ 1 ≤ n ∧ n ≤ w ∧ p ∈ smP ∧ (¬ (p : Int) ∣ O.1 n) ∧ sqf (p : Int) O := by
  obtain ⟨G, v, g, hgz, G1, G2, gn, n1, O1, O2, hf⟩ := h
  have dO : dvz O W := dvz_r hgz.2.1
  have e : W.1 w = G.1 g * O.1 n := by
    have e1 : W = plM G O := ev_ext (fun x => by rw [ev_M]; exact hgz.2.1 x)
    have e2 := plM_top G2 O2
    rw [← e1, gn] at e2
    exact e2
  have hb := hW.2.2.2.2.2 w
  refine ⟨dO, prim_dvz dO hW.1, O1, ?_, O2, n1, by omega, hf.1, hf.2.1.1, hf.2.1.2⟩
  have h1 : 1 * O.1 n ≤ G.1 g * O.1 n := Int.mul_le_mul_of_nonneg_right (by omega) (by omega)
  unfold ab at hb
  omega
theorem cst_congr {p : Int} {c n : Nat} {dg : Nat → Nat} {l : Int} {O : Pl} {P P' : Nat → Pl} (h : cst p c n dg l O P) (e : ∀ i, i < c → P' i = P i) : cst p c n dg l O P' := by
  obtain ⟨h1, h2, h3, h4, h5, h6, h7, h8, h9⟩ := h
  refine ⟨h1, fun i hi => by rw [e i hi]; exact h2 i hi, h3, fun i j hij hj => by rw [e i (by omega), e j hj]; exact h4 i j hij hj, by rw [Q_congr e]; exact h5, h6, h7, h8, h9⟩
theorem cst_ex {q c n : Nat} {O f : Pl} {M : zM} {N : zN} (hp : prm ((q + 2 : Nat) : Int)) (hO1 : ¬ ((q + 2 : Nat) : Int) ∣ O.1 n) (hO2 : dl (n + 1) O) (hsq : sqf ((q + 2 : Nat) : Int) O) (hf : mon f n) (hv : ∃ v, cg ((q + 2 : Nat) : Int) O (plK v f)) (hprt : prt q c f M N) (hir : ∀ i, i < c → ∃ d, 1 ≤ d ∧ irr ((q + 2 : Nat) : Int) (Pt M i) d) : ∃ dg, cst ((q + 2 : Nat) : Int) c n dg (O.1 n) O (Pt M) ∧ c ≤ n := by
  obtain ⟨_, c1, _, hQ⟩ := hprt
  have dec : ∀ i, Decidable (i < c) := fun i => inferInstance
  let dg : Nat → Nat := fun i => if h : i < c then (hir i h).choose else 0
  have hdg : ∀ i, i < c → 1 ≤ dg i ∧ irr ((q + 2 : Nat) : Int) (Pt M i) (dg i) := fun i hi => by
    have e : dg i = (hir i hi).choose := dif_pos hi
    rw [e]
    exact (hir i hi).choose_spec
  have hm := Q_dmon (A := Pt M) (dg := dg) (c := c) (fun i hi => (hdg i hi).2.1)
  have hds : dsum dg c = n := mt_uniq (mon_mt hp hm) (mt_cg hQ (mon_mt hp hf))
  obtain ⟨v, hv⟩ := hv
  have hl : cg ((q + 2 : Nat) : Int) O (plM (plX (O.1 n) 0) (plQ (Pt M) c)) := by
    have h1 := cg_co hv n
    have e1 : (plK v f).1 n = v := by
      show v * f.1 n = v
      rw [hf.2, Int.mul_one]
    rw [e1] at h1
    refine cg_trans hv (cg_trans (b := plK (O.1 n) f) (cg_of (fun i => ?_)) (cg_trans (cg_K hQ) (cg_eq (fun x => ?_))))
    · show _ ∣ v * f.1 i - O.1 n * f.1 i
      obtain ⟨y, hy⟩ := h1
      exact ⟨-(y * f.1 i), by rw [← Int.sub_mul, show v - O.1 n = -(((q + 2 : Nat) : Int) * y) by omega]; grind⟩
    · rw [ev_K, ev_M, ev_X, Int.pow_zero, Int.mul_one]
  refine ⟨dg, ⟨hp, fun i hi => (hdg i hi).2, hds, fun i j hij hj => sqf_cop hp hsq (dvp_trans (Q_split hij hj) (dvp_cg (dvp_Ml dvp_refl) hl)), hl, hsq, hO1, rfl, hO2⟩, ?_⟩
  have : ∀ k, k ≤ c → k ≤ dsum dg k := by
    intro k
    induction k with
    | zero => exact fun _ => Nat.zero_le _
    | succ k ih =>
      intro hk
      have a := ih (by omega)
      have b := (hdg k (by omega)).1
      have e : dsum dg (k + 1) = dsum dg k + dg k := rfl
      omega
  have := this c (Nat.le_refl _)
  omega
theorem zgc_of_prim {f : Nat → Int64} (h : prim (prP 8 f)) : zgc f 8 = 1 := by
  have := h (zgc f 8 : Int) (fun i => by
    show _ ∣ pr 8 f i
    rcases Nat.lt_or_ge i 8 with c | c
    · rw [pr_lt c]
      exact Int.dvd_natAbs.mp (Int.ofNat_dvd.mpr (zgc_dvd (f := f) c))
    · rw [pr_ge c]
      exact ⟨0, (Int.mul_zero _).symm⟩)
  omega
theorem s_takeApart {K : zM → zN → Prop} {a1 a2 n0 : Nat} {M : zM} {N : zN} (ha : zfac a2) (z1 : zlong a1 = 8) (r1 : a1 < 11) (hb : ∀ i, i < 8 → zab (M a1 i) ≤ 99999) (hd : zdg (M a1) 8 = n0 + 1)
    (k : ∀ (cc : Int64) (W : Pl) (M' : zM) (N' : zN), (∀ a, ¬ (11 ≤ a ∧ a ≤ 16) → ¬ (19 ≤ a ∧ a ≤ 78) → ¬ (a2 ≤ a ∧ a < a2 + 9) → M' a = M a) → (∀ j, j ≠ 3 → M' a2 j = M a2 j) → (∀ a, a ≠ 17 → a ≠ 45 → a ≠ a2 → a ≠ a2 + 9 → N' a = N a) → (∀ j, j ≠ 1 → N' 17 j = N 17 j) → (∀ j, j ≠ 2 → N' a2 j = N a2 j) → M' a2 3 = cc → cc.toInt.natAbs = zgc (M a1) 8 → (∀ i, i < 8 → (M a1 i).toInt = cc.toInt * W.1 i) → prim W → 0 < W.1 n0 → dl (n0 + 1) W → (n0 = 0 → N' a2 2 = nI 0) → (1 ≤ n0 → wld W n0 ∧ ∃ O n p r, opn W n0 O n p ∧ 1 ≤ r ∧ r ≤ 7 ∧ N' a2 2 = nI r ∧ fac O W r (Fr a2 M') (N' (a2 + 9))) → K M' N') : w_Sp_takeApart a1 a2 M N K := by
  have ha8 : a2 = 79 ∨ a2 = 89 := ha
  obtain ⟨n08, _, hz⟩ := zdg_s hd
  refine s_copyInto z1 (by decide) (fun M2 f1 f2 => ?_)
  refine s_makePrimitive (d := n0) (by decide) (fun i hi => by rw [f2 i hi]; have := hb i hi; omega) (by rw [zdg_congr f2]; exact hd) (fun cc M5 g1 g2 g3 g4 g5 => ⟨ha, ha, fun N9 e9 => ⟨ha, fun M8 e8 => ?_⟩⟩)
  rw [zgc_congr 8 f2] at g2
  obtain ⟨W, eW⟩ : ∃ W, prP 8 (M5 73) = W := ⟨_, rfl⟩
  rw [eW] at g5
  have vW : ∀ i, i < 8 → (M5 73 i).toInt = W.1 i := fun i hi => by rw [← eW]; exact (pr_lt hi).symm
  have row : ∀ i, i < 8 → (M a1 i).toInt = cc.toInt * W.1 i := fun i hi => by rw [← f2 i hi, g3 i hi, vW i hi]
  have c0 : cc.toInt ≠ 0 := fun c => by
    have h1 := zgc_pos (f := M a1) n08 (zdg_s hd).2.1
    omega
  have W1 : 0 < W.1 n0 := by rw [← vW n0 n08]; exact g4
  have W2 : dl (n0 + 1) W := fun i hi => by
    rcases Nat.lt_or_ge i 8 with c | c
    · have := row i c
      rw [hz i (by omega) c] at this
      rcases Int.mul_eq_zero.mp this.symm with x | x
      · exact absurd x c0
      · exact x
    · rw [← eW]; exact pr_ge c
  have Wb : ∀ i, ab (W.1 i) ≤ 99999 := fun i => by
    rcases Nat.lt_or_ge i 8 with c | c
    · have h1 := hb i c
      unfold zab at h1
      rw [row i c, Int.natAbs_mul] at h1
      have h2 : 1 * (W.1 i).natAbs ≤ cc.toInt.natAbs * (W.1 i).natAbs := Nat.mul_le_mul_right _ (by omega)
      unfold ab
      omega
    · rw [← eW, show (prP 8 (M5 73)).1 i = 0 from pr_ge c]; decide
  have e73 : M8 73 = M5 73 := by rw [e8, zput_ne (by omega)]
  have fr8 : ∀ a, a ≠ 73 → a ≠ a2 → M8 a = M a := fun a x y => by rw [e8, zput_ne y, g1 a x, f1 a x]
  have fr83 : ∀ j, j ≠ 3 → M8 a2 j = M a2 j := fun j x => by rw [e8, zput_n2 x, g1 a2 (by omega), f1 a2 (by omega)]
  have e83 : M8 a2 3 = cc := by rw [e8, zput_eq]
  have n92 : N9 a2 2 = nI 0 := by rw [e9, zpui_eq]; rfl
  have frN : ∀ a, a ≠ a2 → N9 a = N a := fun a x => by rw [e9, zpui_ne x]
  have frN2 : ∀ j, j ≠ 2 → N9 a2 j = N a2 j := fun j x => by rw [e9, zpui_n2 x]
  refine s_Ro_degreeOf (n := 8) (by decide) (by decide) (by decide) ?_
  rw [e73, row_zdg (n := n0) n08 (by rw [eW]; omega) (by rw [eW]; exact W2), pk_m1]
  refine ⟨fun h1 => ?_, fun h1 => ?_⟩
  rotate_left
  · have n00 : n0 = 0 := by
      refine Nat.le_zero.mp (Nat.not_lt.mp (fun x => h1 ?_))
      exact (nI_leI (a := 1) (by decide) (by omega)).mpr x
    exact k cc W M8 N9 (fun a _ y z => fr8 a (by omega) (by omega)) fr83 (fun a _ _ y _ => frN a y) (fun j _ => by rw [frN 17 (by omega)]) frN2 e83 g2 row g5 W1 W2 (fun _ => n92) (fun x => by omega)
  have n01 : 1 ≤ n0 := (nI_leI (a := 1) (by decide) (by omega)).mp h1
  have hW : wld W n0 := ⟨g5, W1, W2, n01, by omega, Wb⟩
  obtain ⟨O, n, p, hop⟩ := opn_ex hW
  obtain ⟨dO, pO, O1, Ol, O2, nn1, nw, hpm, hpl, hsq⟩ := opn_f hW hop
  obtain ⟨G, v, g, hgz, G1, G2, gn, _, _, _, hfp⟩ := id hop
  refine s_Ro_slopeInto (by decide) (by decide) (by decide) (by decide) (by decide) (fun M14 h1 h2 h3 _ => ?_)
  rw [e73] at h2
  have eT : prP 8 (M14 75) = plT W := by
    rw [← eW]
    exact row_T (by decide) (by decide) (fun i hi => by have := Wb i; rw [← vW i hi] at this; unfold ab at this; omega) h2 h3
  have e1473 : prP 8 (M14 73) = W := by rw [h1 73 (by decide), e73]; exact eW
  have v73 : ∀ i, i < 8 → (M14 73 i).toInt = W.1 i := fun i hi => by rw [h1 73 (by decide), e73]; exact vW i hi
  have v75 : ∀ i, i < 8 → (M14 75 i).toInt = (plT W).1 i := fun i hi => by rw [← eT]; exact (pr_lt hi).symm
  obtain ⟨T1, T2⟩ := wld_T hW
  refine s_CD_find (G := G) (n := n0) (m := n0 - 1) (g := g) (by decide) (by decide) (by decide) (by decide) (by rw [e1473, eT]; exact gall_slope hgz (by omega) W2 T1 T2 G1 G2 (by omega) (by omega) Wb (T_bnd hW)) (by rw [row_zdg (n := n0) n08 (by rw [e1473]; omega) (by rw [e1473]; exact W2)]; omega) (by rw [row_zdg (n := n0 - 1) (by omega) (by rw [eT]; exact T1) (by rw [eT]; exact T2)]; omega) (fun i hi => ?_) (fun i hi => ?_) (fun M17 w1 w2 => ?_)
  · have := Wb i
    rw [← v73 i hi] at this
    unfold ab at this
    unfold zab
    omega
  · have h7 : i < 7 ∨ (plT W).1 i = 0 := by
      by_cases c : i < 7
      · exact Or.inl c
      · exact Or.inr (T2 i (by omega))
    have := T_bnd hW i
    rw [← v75 i hi] at this h7
    unfold ab at this
    unfold zab
    omega
  have gc1 : Nat.gcd (zgc (M14 73) 8) (zgc (M14 75) 8) = 1 := by
    rw [zgc_of_prim (by rw [e1473]; exact g5), Nat.gcd_one_left]
  have e13 : prP 8 (M17 13) = G := pl_ext (fun i => by
    show pr 8 (M17 13) i = G.1 i
    rcases Nat.lt_or_ge i 8 with c | c
    · rw [pr_lt c, w2 i c, gc1]
      exact Int.one_mul _
    · rw [pr_ge c, G2 i (by omega)])
  have e1773 : prP 8 (M17 73) = W := by rw [w1 73 (by decide)]; exact e1473
  refine s_fq hW (by decide) (by decide) (by decide) (by decide) (by decide) (by decide) (by decide) (by decide) (by rw [e1773]; exact dvz_refl) (by rw [e13]; exact dvz_l hgz.2.1) (fun M20 u1 u2 => ?_) (fun M20 u1 u2 => absurd (by rw [e13, e1773]; exact dvz_l hgz.2.1) u2)
  have e74 : prP 8 (M20 74) = O := ev_ext (pl_eqc (G := G) ⟨g, by omega⟩ (fun x => by
    have := u2 x
    rw [e1773, e13] at this
    rw [← this]
    exact hgz.2.1 x))
  obtain ⟨bO, _, _⟩ := wld_b hW dO
  have bO' : ∀ i, i < 8 → (M20 74 i).toInt.natAbs ≤ 100000000 := fun i hi => by
    have := bO i
    rw [← e74, show (prP 8 (M20 74)).1 i = (M20 74 i).toInt from pr_lt hi] at this
    unfold ab at this
    omega
  obtain ⟨pp1, pp2, _⟩ := smP_c p hpm
  have hpr := smP_p p hpm
  refine s_goodPrime (k := n) (p := p) nn1 (by rw [e74]; omega) (by rw [e74]; exact O2) (by omega) bO' (by rw [e74]; exact hfp) (fun M23 t1 => ?_)
  obtain ⟨q, rfl⟩ : ∃ q, p = q + 2 := ⟨p - 2, by omega⟩
  have e2374 : M23 74 = M20 74 := t1 74 (by decide) (by decide) (by decide)
  refine s_MP_find (n := n) (by decide) (by decide) hpr (by omega) (fun i hi => by rw [e2374]; have := bO' i hi; omega) nn1 (by rw [e2374, e74]; exact mt_of hpl O2) (by rw [e2374, e74]; exact hsq) (fun c f M26 N27 s1 s2 s3 s4 s5 s6 s7 s8 s9 => ?_)
  rw [e2374, e74] at s6
  obtain ⟨dg, hcst, hcn⟩ := cst_ex hpr hpl O2 hsq s5 s6 s8 s9
  have e2674 : M26 74 = M20 74 := by rw [s1 74 (by decide)]; exact e2374
  have fr26 : ∀ a, ¬ (11 ≤ a ∧ a ≤ 16) → ¬ (19 ≤ a ∧ a ≤ 50) → ¬ (73 ≤ a ∧ a ≤ 78) → a ≠ a2 → M26 a = M a := fun a x y z t => by
    rw [s1 a y, t1 a (by omega) (by omega) (by omega), u1 a (by omega) (by omega), w1 a x, h1 a (by omega)]
    exact fr8 a (by omega) t
  have fr26a : M26 a2 = M8 a2 := by
    rw [s1 a2 (by omega), t1 a2 (by omega) (by omega) (by omega), u1 a2 (by omega) (by omega), w1 a2 (by omega), h1 a2 (by omega)]
  have e2673 : prP 8 (M26 73) = W := by
    rw [s1 73 (by decide), t1 73 (by decide) (by decide) (by decide), u1 73 (by decide) (by decide)]
    exact e1773
  have last : ∀ M3 : zM, (∀ a, ¬ (51 ≤ a ∧ a ≤ 72) → M3 a = M26 a) → (2 ≤ c → ∃ m s, 1766335 ≤ m ∧ m < 340000000 ∧ m = (q + 2) ^ (s + 1) ∧ lft q m c dg (O.1 n) O (Pt M26) M3) → J_Sp_takeApart_117 K a2 M3 N27 := by
    intro M3 y1 y2
    have eP : ∀ i, i < c → Pt M3 i = Pt M26 i := fun i hi => by
      show prP 8 (M3 (19 + i)) = prP 8 (M26 (19 + i))
      rw [y1 _ (by omega)]
    refine s_combine (q := q) (c := c) (n := n) (w := n0) (dg := dg) (l := O.1 n) (W := W) (O := O) ha hW (by rw [y1 73 (by decide)]; exact e2673) (by rw [y1 74 (by decide), e2674]; exact e74) dO pO s8.1 s8.2.1 (by omega) (cst_congr hcst eP) O1 Ol nn1 (by omega) (by rw [s2 a2 (by omega) (by omega)]; exact n92) (fun h => ?_) (fun r M' N' q1 q2 q3 q4 q5 q6 q7 => ?_)
    · obtain ⟨m, s, m1, m2, m3, m4, m5, m6⟩ := y2 h
      exact ⟨m, s, m1, m2, m3, m4, fun i hi => by rw [eP i hi]; exact m5 i hi, m6⟩
    · clear y2
      refine k cc W M' N' (fun a x y z => ?_) (fun j hj => ?_) (fun a x y z t => ?_) (fun j hj => ?_) (fun j hj => ?_) ?_ g2 row g5 W1 W2 (fun x => by omega) (fun _ => ⟨hW, O, n, q + 2, r, hop, q4, q5, q6, q7⟩)
      · rw [q1 a (by omega) (by omega), y1 a (by omega)]
        exact fr26 a x (by omega) (by omega) (by omega)
      · rw [q1 a2 (by omega) (by omega), y1 a2 (by omega), fr26a]
        exact fr83 j hj
      · rw [q2 a z t, s2 a x y]
        exact frN a z
      · rw [q2 17 (by omega) (by omega), s3 j hj, frN 17 (by omega)]
      · rw [q3 j hj, s2 a2 (by omega) (by omega)]
        exact frN2 j hj
      · rw [q1 a2 (by omega) (by omega), y1 a2 (by omega), fr26a]
        exact e83
  refine ⟨fun x => last M26 (fun _ _ => rfl) (fun y => ?_), fun x => ?_⟩
  · rw [s8.1] at x
    have := (nI_leI (b := 1) (by omega) (by decide)).mp x
    omega
  · have hP := fun i hi => (s8.2.2.1 i hi).1
    refine s_lift (n := n) (dg := dg) (l := O.1 n) hpr (by omega) (by omega) s8.1 (fun i hi => ⟨hcst.2.1 i hi, hP i hi⟩) hcst.2.2.1 (by omega) hcst.2.2.2.1 (fun i hi => by rw [e2674]; exact bO' i hi) O1 Ol hpl (by rw [e2674, e74]; exact O2) (by rw [e2674, e74]) (by rw [e2674, e74]; exact hcst.2.2.2.2.1) (fun m s M29 l1 l2 l3 l4 l5 => last M29 l1 (fun _ => ⟨m, s, ?_, l3, l4, ?_⟩))
    · have h28 : s < 30 := Nat.not_le.mp (fun y => by
        have h31 : 2 ^ 31 ≤ 2 ^ (s + 1) := Nat.pow_le_pow_right (by decide) (by omega)
        have h32 : 2 ^ (s + 1) ≤ (q + 2) ^ (s + 1) := Nat.pow_le_pow_left (by omega) (s + 1)
        omega)
      rw [l4] at l2 ⊢
      exact pow17 (q + 2) hpm s h28 l2
    · rw [e2674, e74] at l5
      exact l5
