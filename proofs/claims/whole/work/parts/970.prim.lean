/-! The class's primitive row. -/
theorem zgc_dvd {f : Nat → Int64} : ∀ {n i : Nat}, i < n → zgc f n ∣ zab (f i)
  | 0, i, h => absurd h (Nat.not_lt_zero _)
  | n + 1, i, h => by
    show Nat.gcd (zgc f n) (zab (f n)) ∣ _
    by_cases e : i = n
    · rw [e]; exact Nat.gcd_dvd_right _ _
    · exact Nat.dvd_trans (Nat.gcd_dvd_left _ _) (zgc_dvd (by omega))
theorem zgc_max {f : Nat → Int64} {x : Nat} : ∀ {n : Nat}, (∀ i, i < n → x ∣ zab (f i)) → x ∣ zgc f n
  | 0, _ => Nat.dvd_zero x
  | n + 1, h => Nat.dvd_gcd (zgc_max (fun i hi => h i (by omega))) (h n (by omega))
theorem zgc_pos {f : Nat → Int64} {n i : Nat} (hi : i < n) (h : f i ≠ 0) : 0 < zgc f n := by
  rcases Nat.eq_zero_or_pos (zgc f n) with e | e
  · exfalso
    have := zgc_dvd (f := f) hi
    rw [e] at this
    have h2 := Nat.eq_zero_of_zero_dvd this
    unfold zab at h2
    exact h (by rw [← Int64.toInt_inj]; show _ = (0 : Int); omega)
  · exact e
theorem zgc_zero {f : Nat → Int64} : ∀ {n : Nat}, (∀ i, i < n → f i = 0) → zgc f n = 0
  | 0, _ => rfl
  | n + 1, h => by
    show Nat.gcd (zgc f n) (zab (f n)) = 0
    rw [zgc_zero (fun i hi => h i (by omega)), h n (by omega)]
    rfl
/-- taken out of the content, a row is primitive -/
theorem zgc_prim {f g : Nat → Int64} {r : Int} {n i : Nat} (hi : i < n) (h0 : f i ≠ 0) (hr : r.natAbs = zgc f n) (h : ∀ i, i < n → (f i).toInt = r * (g i).toInt) : prim (prP n g) := by
  intro d hd
  have hpos := zgc_pos hi h0
  have h1 : r.natAbs * d.natAbs ∣ zgc f n := zgc_max (fun j hj => by
    have e : (prP n g).1 j = (g j).toInt := pr_lt hj
    have h2 := hd j
    rw [e] at h2
    unfold zab
    rw [h j hj, Int.natAbs_mul]
    exact Nat.mul_dvd_mul_left _ (Int.natAbs_dvd_natAbs.mpr h2))
  rw [hr] at h1
  have h3 : zgc f n * d.natAbs ∣ zgc f n * 1 := by rw [Nat.mul_one]; exact h1
  exact Nat.dvd_one.mp (Nat.dvd_of_mul_dvd_mul_left hpos h3)
theorem s_leadingOf {K : Int64 → Prop} {a0 d : Nat} {M : zM} (h0 : zlong a0 = 8) (hd : zdg (M a0) 8 = d + 1) (k : K (M a0 d)) : w_Ro_leadingOf a0 M K := by
  obtain ⟨g1, _, _⟩ := zdg_s hd
  refine s_Ro_degreeOf h0 (by decide) (by decide) ?_
  rw [hd, pk_m1]
  refine ⟨fun _ => ⟨by rw [h0]; exact vp_in_nI g1 (by decide), ?_⟩, fun h => absurd (nI_pos' (by omega)) h⟩
  rw [nI_clamp (by omega)]
  exact k
theorem s_prim27 {K : Int64 → zM → Prop} {a0 : Nat} {r : Int64} {M : zM} (h0 : zlong a0 = 8) (hr : ¬ r = 0) (k : ∀ M' : zM, (∀ a, a ≠ a0 → M' a = M a) → (∀ i, i < 8 → M' a0 i = M a0 i / r) → K r M') : ∃ n, L_Ro_makePrimitive_27 K a0 r n (0 : Int32) M := by
  have key : ∀ d j (M1 : zM), j + d = 8 → (∀ a, a ≠ a0 → M1 a = M a) → (∀ i, i < j → M1 a0 i = M a0 i / r) → (∀ i, j ≤ i → M1 a0 i = M a0 i) → ∃ n, L_Ro_makePrimitive_27 K a0 r n (nI j) M1 := by
    intro d
    induction d with
    | zero =>
      intro j M1 hj g1 g2 _
      have : j = 8 := by omega
      subst this
      refine ⟨1, ⟨by omega, fun _ => k M1 g1 g2, fun h => absurd ?_ h⟩⟩
      rw [h0]
      decide
    | succ d ih =>
      intro j M1 hj g1 g2 g3
      obtain ⟨n, hn⟩ := ih (j + 1) (zput M1 a0 j (M1 a0 j / r)) (by omega) (fun a x => by rw [zput_ne x]; exact g1 a x) (fun i hi => by
        by_cases e : i = j
        · subst e; rw [zput_eq, g3 i (Nat.le_refl _)]
        · rw [zput_n2 e]; exact g2 i (by omega)) (fun i hi => by rw [zput_n2 (by omega)]; exact g3 i (by omega))
      have i1 : vp_in (nI j) (zlong a0) := by rw [h0]; exact vp_in_nI (by omega) (by decide)
      refine ⟨n + 1, ⟨by omega, fun h => ?_, fun _ => ⟨i1, hr, i1, fun M8 e8 => ?_⟩⟩⟩
      · rw [h0] at h
        exact absurd h (nI_ge (b := 8) (by omega) (by decide))
      · rw [nI_clamp (by omega)] at e8
        rw [e8, nI_1]
        exact hn
  exact key 8 0 M (by omega) (fun _ _ => rfl) (fun i hi => by omega) (fun _ _ => rfl)
theorem s_makePrimitive {K : Int64 → zM → Prop} {a0 d : Nat} {M : zM} (h0 : zlong a0 = 8) (hb : ∀ i, i < 8 → zab (M a0 i) < 2 ^ 45) (hd : zdg (M a0) 8 = d + 1) (k : ∀ (r : Int64) (M' : zM), (∀ a, a ≠ a0 → M' a = M a) → r.toInt.natAbs = zgc (M a0) 8 → (∀ i, i < 8 → (M a0 i).toInt = r.toInt * (M' a0 i).toInt) → 0 < (M' a0 d).toInt → prim (prP 8 (M' a0)) → K r M') : w_Ro_makePrimitive a0 M K := by
  obtain ⟨g1, g2, g3⟩ := zdg_s hd
  have cp := zgc_pos g1 g2
  have cb : zgc (M a0) 8 < 2 ^ 45 := by
    have := zgc_le (f := M a0) (B := 2 ^ 45 - 1) 8 (fun i hi => by have := hb i hi; omega)
    omega
  have ci : (lN (zgc (M a0) 8)).toInt = (zgc (M a0) 8 : Int) := pk_lT (by omega)
  refine s_Ro_contentOf h0 (by decide) (by decide) hb ⟨fun _ => s_leadingOf h0 hd ?_, fun h => absurd h (fun e => ?_)⟩
  · have go : ∀ r : Int64, r.toInt.natAbs = zgc (M a0) 8 → 0 ≤ r.toInt * (M a0 d).toInt → ∃ n, L_Ro_makePrimitive_27 K a0 r n (0 : Int32) M := fun r hr hs => by
      have r0 : r.toInt ≠ 0 := by omega
      refine s_prim27 h0 (fun e => r0 (by rw [e]; rfl)) (fun M' f1 f2 => ?_)
      have hex : ∀ i, i < 8 → (M a0 i).toInt = r.toInt * (M' a0 i).toInt := fun i hi => by
        have dv : r.toInt ∣ (M a0 i).toInt := Int.natAbs_dvd_natAbs.mp (by rw [hr]; exact zgc_dvd hi)
        obtain ⟨y, hy⟩ := dv
        have hb2 := hb i hi
        unfold zab at hb2
        rw [f2 i hi, zq_exact (q := y) (by omega) r0 (by rw [hy, Int.mul_comm])]
        exact hy
      refine k r M' f1 hr hex ?_ (zgc_prim g1 g2 hr hex)
      have h5 := hex d g1
      rw [h5] at hs
      have ne : (M' a0 d).toInt ≠ 0 := fun e => g2 (by rw [← Int64.toInt_inj, h5, e, Int.mul_zero]; rfl)
      rcases Int.lt_trichotomy (M' a0 d).toInt 0 with c | c | c
      · exfalso
        have e1 : r.toInt * (r.toInt * (M' a0 d).toInt) = (r.toInt * r.toInt) * (M' a0 d).toInt := by grind
        have e2 : 0 < r.toInt * r.toInt := by
          rcases Int.lt_or_gt_of_ne r0 with q | q
          · exact Int.mul_pos_of_neg_of_neg q q
          · exact Int.mul_pos q q
        have e3 := Int.mul_neg_of_pos_of_neg e2 c
        omega
      · exact absurd c ne
      · exact c
    refine ⟨fun h => go _ (by rw [ci]; omega) ?_, fun h x7 e7 => ?_⟩
    · rw [ci]
      rw [Int64.le_iff_toInt_le] at h
      exact Int.mul_nonneg (by omega) h
    · rw [e7]
      have en : (-(lN (zgc (M a0) 8))).toInt = -(zgc (M a0) 8 : Int) := by rw [zx_neg (by rw [ci]; omega), ci]
      refine go _ (by rw [en]; omega) ?_
      rw [en]
      rw [Int64.le_iff_toInt_le] at h
      have h' : ¬ (0 : Int) ≤ (M a0 d).toInt := h
      rw [show -(zgc (M a0) 8 : Int) * (M a0 d).toInt = (zgc (M a0) 8 : Int) * (-(M a0 d).toInt) by grind]
      exact Int.mul_nonneg (by omega) (by omega)
  · have := (pk_lEQ (a := zgc (M a0) 8) (b := 0) (by omega) (by decide)).mp e
    omega
theorem s_makePrimitive0 {K : Int64 → zM → Prop} {a0 : Nat} {M : zM} (h0 : zlong a0 = 8) (hd : zdg (M a0) 8 = 0) (k : K 0 M) : w_Ro_makePrimitive a0 M K := by
  have hz := zdg_0 hd
  refine s_Ro_contentOf h0 (by decide) (by decide) (fun i hi => by rw [hz i hi]; decide) ?_
  rw [zgc_zero hz]
  exact ⟨fun h => absurd rfl h, fun _ => k⟩
theorem s_nearest {K : Int64 → Prop} {x : Int64} {P : Nat} (p0 : 2 < P) (p1 : P < 2 ^ 31) (hx : x.toInt.natAbs < 2 ^ 62) (k : ∀ y : Int64, (P : Int) ∣ y.toInt - x.toInt → 2 * ab y.toInt ≤ P → K y) : w_Re_nearest x (lN P) K := by
  obtain ⟨q1, q2, q3, q4⟩ := z_lNp (P := P) (by omega) p1
  have hr := zrs_e q2 hx
  rw [q1] at hr
  have hm := z_emod (P := P) (by omega) x.toInt
  have hh : (lN P / (2 : Int64)).toInt = ((P / 2 : Nat) : Int) := by
    rw [show (2 : Int64) = lN 2 from rfl, pk_lDiv (by omega) (by decide) (by decide), pk_lT (by omega)]
  refine s_residue q3 ⟨by decide, fun h => k _ (by rw [hr]; exact mod_dvd _ _) ?_, fun h => k _ ?_ ?_⟩
  · rw [Int64.le_iff_toInt_le, hr, hh] at h
    rw [hr]
    unfold ab
    omega
  · have e := zx_sub (x := zrs x (lN P)) (y := lN P) (by rw [hr, q1]; omega) (by rw [hr, q1]; omega)
    rw [e, hr, q1]
    obtain ⟨y, hy⟩ := mod_dvd x.toInt (P : Int)
    exact ⟨y - 1, by grind⟩
  · have e := zx_sub (x := zrs x (lN P)) (y := lN P) (by rw [hr, q1]; omega) (by rw [hr, q1]; omega)
    rw [Int64.le_iff_toInt_le, hr, hh] at h
    rw [e, hr, q1]
    unfold ab
    omega
/-- two primitive rows, one a multiple of the other -/
theorem prim_uniq {F G : Pl} {r s : Int} {d : Nat} (hF : prim F) (hG : prim G) (hr : r ≠ 0) (F1 : 0 < F.1 d) (F2 : dl (d + 1) F) (G1 : 0 < G.1 d) (G2 : dl (d + 1) G) (h : ∀ i, r * F.1 i = s * G.1 i) : ∀ i, F.1 i = G.1 i := by
  have e0 : plK r F = plK s G := pl_ext h
  obtain ⟨q, hq⟩ := prim_div (G := G) (A := F) hG _ r (plX s 0) rfl hr (fun x => by
    have := congrArg (fun c : Pl => ev c x) e0
    rw [ev_X, Int.pow_zero]
    have e1 : ev (plK r F) x = ev (plK s G) x := this
    rw [ev_K, ev_K] at e1
    grind)
  have e : F = plM G q := ev_ext (fun x => by rw [ev_M]; exact hq x)
  rcases pl_top q with t | ⟨k, t1, t2⟩
  · exfalso
    have : F.1 d = 0 := by
      rw [e]
      show pmul G.1 q.1 d = 0
      rw [pmul_comm]
      exact pmul_z t d
    omega
  · have t := top_M (by omega) G2 t1 t2
    rw [← e] at t
    have hk := top_u t.1 t.2 (by omega) F2
    have k0 : k = 0 := by omega
    subst k0
    have e2 : ∀ i, F.1 i = q.1 0 * G.1 i := fun i => by
      have e3 : F = plK (q.1 0) G := ev_ext (fun x => by
        rw [hq x, ev_K, ev_of t2]
        show _ * (0 + q.1 0 * x ^ 0) = _
        rw [Int.pow_zero]
        grind)
      exact congrArg (fun c : Pl => c.1 i) e3
    have e4 := hF (q.1 0) (fun i => ⟨G.1 i, e2 i⟩)
    have e5 : q.1 0 = 1 := by
      have : q.1 0 = 1 ∨ q.1 0 = -1 := by omega
      rcases this with e5 | e5
      · exact e5
      · exfalso
        have g1 := e2 d
        rw [e5] at g1
        omega
    intro i
    rw [e2 i, e5, Int.one_mul]
