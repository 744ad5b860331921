/-! common. -/
theorem s_Mo_scale {K : zM → Prop} {a0 : Nat} {c : Int64} {M : zM} (h0 : zlong a0 = 16) (hc : ¬ c = 0) (k : ∀ M' : zM, (∀ a, a ≠ a0 → M' a = M a) → (∀ i, i < 16 → M' a0 i = M a0 i / c) → K M') : w_Mo_scale a0 c M K := by
  have key : ∀ d j (M1 : zM), j + d = 16 → (∀ a, a ≠ a0 → M1 a = M a) → (∀ i, i < j → M1 a0 i = M a0 i / c) → (∀ i, j ≤ i → M1 a0 i = M a0 i) → ∃ n, L_Mo_scale_2 K a0 c n (nI j) M1 := by
    intro d
    induction d with
    | zero =>
      intro j M1 hj g1 g2 _
      have : j = 16 := by omega
      subst this
      exact ⟨1, ⟨fun _ => k M1 g1 g2, fun h => absurd (by decide) h⟩⟩
    | succ d ih =>
      intro j M1 hj g1 g2 g3
      obtain ⟨n, hn⟩ := ih (j + 1) (zput M1 a0 j (M1 a0 j / c)) (by omega) (fun a x => by rw [zput_ne x]; exact g1 a x) (fun i hi => by
        by_cases e : i = j
        · subst e; rw [zput_eq, g3 i (Nat.le_refl _)]
        · rw [zput_n2 e]; exact g2 i (by omega)) (fun i hi => by rw [zput_n2 (by omega)]; exact g3 i (by omega))
      have i1 : vp_in (nI j) (zlong a0) := by rw [h0]; exact vp_in_nI (by omega) (by decide)
      refine ⟨n + 1, ⟨fun h => absurd h (nI_ge (b := 16) (by omega) (by decide)), fun _ => ⟨i1, hc, i1, fun M31 e31 => ?_⟩⟩⟩
      rw [nI_clamp (by omega)] at e31
      rw [e31, nI_1]
      exact hn
  exact key 16 0 M (by omega) (fun _ _ => rfl) (fun i hi => by omega) (fun _ _ => rfl)
theorem s_com190 {P : Int32 → zM → zN → Prop} {a1 : Int32} {v : Int64} {N : zN} {M : zM} (k : ∀ M' : zM, (∀ a, a ≠ 108 → M' a = M a) → (∀ i, i < 16 → M' 108 i = M 113 i * v) → w_Mo_settle a1 108 (2 : Int32) M' N (fun r35 N37 => P r35 M' N37)) : ∃ n, L_Mo_common_190 P a1 v N n (0 : Int32) M := by
  have z108 : zlong 108 = 16 := by decide
  have z113 : zlong 113 = 16 := by decide
  have key : ∀ d j (M1 : zM), j + d = 16 → (∀ a, a ≠ 108 → M1 a = M a) → (∀ i, i < j → M1 108 i = M 113 i * v) → ∃ n, L_Mo_common_190 P a1 v N n (nI j) M1 := by
    intro d
    induction d with
    | zero =>
      intro j M1 hj g1 g2
      have : j = 16 := by omega
      subst this
      exact ⟨1, ⟨fun _ => k M1 g1 g2, fun h => absurd (by decide) h⟩⟩
    | succ d ih =>
      intro j M1 hj g1 g2
      obtain ⟨n, hn⟩ := ih (j + 1) (zput M1 108 j (M1 113 j * v)) (by omega) (fun a x => by rw [zput_ne x]; exact g1 a x) (fun i hi => by
        by_cases e : i = j
        · subst e; rw [zput_eq, g1 113 (by decide)]
        · rw [zput_n2 e]; exact g2 i (by omega))
      refine ⟨n + 1, ⟨fun h => absurd h (nI_ge (b := 16) (by omega) (by decide)), fun _ => ⟨by rw [z113]; exact vp_in_nI (by omega) (by decide), by rw [z108]; exact vp_in_nI (by omega) (by decide), fun M31 e31 => ?_⟩⟩⟩
      rw [nI_clamp (by omega)] at e31
      rw [e31, nI_1]
      exact hn
  exact key 16 0 M (by omega) (fun _ _ => rfl) (fun i hi => by omega)
theorem s_com107 {P : Int32 → zM → zN → Prop} {a1 : Int32} {t0 : Nat} {N : zN} {M : zM} (h0 : zlong t0 = 16) (hz : ∀ i, 8 ≤ i → i < 16 → M t0 i = 0) (hb : ∀ i, i < 16 → zab (M t0 i) ≤ 99999) (k : ∀ M' : zM, (∀ a, a ≠ t0 → M' a = M a) → (∀ i, i < 16 → (M' t0 i).toInt = zsgn (M t0) * (M t0 i).toInt) → J_Mo_common_139 P a1 t0 M' N) : J_Mo_common_107 P a1 t0 M N := by
  refine s_Mo_degreeOf h0 ?_
  rw [zdg_up (n := 8) (by decide) hz]
  have le8 := zdg_le (M t0) 8
  rcases Nat.eq_zero_or_pos (zdg (M t0) 8) with e | e
  · rw [e]
    refine ⟨fun _ => k M (fun _ _ => rfl) (fun i hi => ?_), fun c => absurd (by decide) c⟩
    have : M t0 i = 0 := by
      rcases Nat.lt_or_ge i 8 with g | g
      · exact zdg_0 e i g
      · exact hz i g hi
    rw [this]
    show (0 : Int) = _ * (0 : Int)
    rw [Int.mul_zero]
  · obtain ⟨d, hd⟩ : ∃ d, zdg (M t0) 8 = d + 1 := ⟨zdg (M t0) 8 - 1, by omega⟩
    rw [hd, pk_m1]
    refine ⟨fun c => absurd c (nI_pos (by omega)), fun _ => ⟨by rw [h0]; exact vp_in_nI (by omega) (by decide), ?_⟩⟩
    rw [nI_clamp (by omega)]
    have es : zsgn (M t0) = if 0 ≤ (M t0 d).toInt then 1 else -1 := by
      unfold zsgn
      rw [hd, show d + 1 - 1 = d by omega]
    refine ⟨fun c => k M (fun _ _ => rfl) (fun i hi => ?_), fun c => s_Mo_scale h0 (by decide) (fun M' f1 f2 => k M' f1 (fun i hi => ?_))⟩
    · rw [Int64.le_iff_toInt_le] at c
      rw [es, if_pos (show (0 : Int) ≤ _ from c), Int.one_mul]
    · rw [Int64.le_iff_toInt_le] at c
      rw [es, if_neg (show ¬ (0 : Int) ≤ _ from c), f2 i hi]
      have := hb i hi
      unfold zab at this
      rw [zq_exact (q := -(M t0 i).toInt) (by omega) (by decide) (by show _ = -(M t0 i).toInt * (-1); omega)]
      omega
theorem zld_row {M M' : zM} {N : zN} (hI : zreg M N) {r c : Nat} (hr : r < 4) (h : ∀ i, i < 16 → M' c i = zld N r i) : (∀ i, i < 8 → M' c i = M (2 + r) i) ∧ (∀ i, 8 ≤ i → i < 16 → M' c i = 0) := by
  refine ⟨fun i hi => ?_, fun i a b => ?_⟩
  · rw [h i (by omega), z_ld hI hr hi]
  · rw [h i b, z_ld0 a]
/-- the reference's common of two rows that are not 0 -/
theorem s_Mo_common {P : Int32 → zM → zN → Prop} {r s t : Nat} {M0 M : zM} {N : zN} {G : Pl} {n m g : Nat} (hI : zreg M0 N) (hN : zgr N) (hr : r < 4) (hs : s < 4) (ht : t < 4) (hg : gall (prP 8 (M0 (2 + s))) (prP 8 (M0 (2 + t))) G n m g) (z1 : zdg (M0 (2 + s)) 8 ≠ 0) (z2 : zdg (M0 (2 + t)) 8 ≠ 0)
    (k : ∀ M' : zM, (∀ a, ¬ (104 ≤ a ∧ a ≤ 117) → M' a = M a) → (∀ i, i < 16 → (M' 108 i).toInt = (Nat.gcd (zgc (M0 (2 + s)) 8) (zgc (M0 (2 + t)) 8) : Int) * G.1 i) → dl 8 G → w_Mo_settle (nI r) 108 (2 : Int32) M' (zpui N 99 0 0) (fun r35 N37 => P r35 M' N37)) : w_Mo_common (nI r) (nI s) (nI t) M N P := by
  refine s_isReg (fun _ => ⟨fun h => absurd h (by decide), fun _ => ?_⟩) (fun h => absurd ⟨r, hr, rfl⟩ h)
  refine s_isReg (fun _ => ⟨fun h => absurd h (by decide), fun _ => ?_⟩) (fun h => absurd ⟨s, hs, rfl⟩ h)
  refine s_isReg (fun _ => ⟨fun h => absurd h (by decide), fun _ => ?_⟩) (fun h => absurd ⟨t, ht, rfl⟩ h)
  intro N0 e0
  have hz0 : N0 99 0 = 0 := by rw [e0, zpui_eq]
  have hzl : ∀ q, zld N0 q = zld N q := fun q => by rw [e0]; unfold zld; rw [zpui_ne (by decide)]
  have hN0 : zgr N0 := fun j hj => by rw [e0, zpui_ne (by decide)]; exact hN j hj
  rw [hz0]
  refine ⟨fun _ => ?_, fun h => absurd (by decide) h⟩
  refine s_Mo_load hs (by decide) (fun Ma a1 a2 => s_Mo_load ht (by decide) (fun Mb b1 b2 => ?_))
  obtain ⟨u6, w6⟩ := zld_row (M' := Mb) (c := 106) hI hs (fun i hi => by rw [b1 106 (by decide), a2 i hi, hzl])
  obtain ⟨u7, w7⟩ := zld_row (M' := Mb) (c := 107) hI ht (fun i hi => by rw [b2 i hi, hzl])
  have r6 : ∀ i, i < 16 → zab (Mb 106 i) ≤ 99999 := fun i hi => by
    rcases Nat.lt_or_ge i 8 with c | c
    · rw [u6 i c]; exact z_regab hI hs c
    · rw [w6 i c hi]; decide
  have r7 : ∀ i, i < 16 → zab (Mb 107 i) ≤ 99999 := fun i hi => by
    rcases Nat.lt_or_ge i 8 with c | c
    · rw [u7 i c]; exact z_regab hI ht c
    · rw [w7 i c hi]; decide
  have c6 : zgc (Mb 106) 16 = zgc (M0 (2 + s)) 8 := by rw [zgc_up (n := 8) (by decide) w6]; exact zgc_congr 8 u6
  have c7 : zgc (Mb 107) 16 = zgc (M0 (2 + t)) 8 := by rw [zgc_up (n := 8) (by decide) w7]; exact zgc_congr 8 u7
  have pos : ∀ q, zdg (M0 q) 8 ≠ 0 → 0 < zgc (M0 q) 8 := fun q hq => by
    obtain ⟨d, hd⟩ : ∃ d, zdg (M0 q) 8 = d + 1 := ⟨zdg (M0 q) 8 - 1, by omega⟩
    obtain ⟨g1, g2, _⟩ := zdg_s hd
    exact zgc_pos g1 g2
  have p6 := pos _ z1
  have p7 := pos _ z2
  have l6 := zgc_le (f := M0 (2 + s)) (B := 99999) 8 (fun i hi => z_regab hI hs hi)
  have l7 := zgc_le (f := M0 (2 + t)) (B := 99999) 8 (fun i hi => z_regab hI ht hi)
  refine s_Mo_contentOf (by decide) (fun i hi => by have := r6 i hi; omega) (s_Mo_contentOf (by decide) (fun i hi => by have := r7 i hi; omega) ?_)
  rw [c6, c7]
  have ne6 : ¬ lN (zgc (M0 (2 + s)) 8) = 0 := fun c => by
    have := (pk_lEQ (a := zgc (M0 (2 + s)) 8) (b := 0) (by omega) (by decide)).mp c
    omega
  have ne7 : ¬ lN (zgc (M0 (2 + t)) 8) = 0 := fun c => by
    have := (pk_lEQ (a := zgc (M0 (2 + t)) 8) (b := 0) (by omega) (by decide)).mp c
    omega
  refine ⟨fun c => absurd c ne6, fun _ => ⟨fun _ => ?_, fun c => absurd c ne7⟩⟩
  refine s_Mo_scale (by decide) ne6 (fun Mc f1 f2 => s_Mo_scale (by decide) ne7 (fun Md f3 f4 => ?_))
  have i6 : (lN (zgc (M0 (2 + s)) 8)).toInt = (zgc (M0 (2 + s)) 8 : Int) := pk_lT (by omega)
  have i7 : (lN (zgc (M0 (2 + t)) 8)).toInt = (zgc (M0 (2 + t)) 8 : Int) := pk_lT (by omega)
  have hA : ∀ i, (prP 8 (M0 (2 + s))).1 i = (zgc (M0 (2 + s)) 8 : Int) * (prP 16 (Md 106)).1 i := fun i => by
    show pr 8 (M0 (2 + s)) i = _ * pr 16 (Md 106) i
    rcases Nat.lt_or_ge i 16 with c | c
    · rw [pr_lt c, f3 106 (by decide), f2 i c]
      have dv : (zgc (M0 (2 + s)) 8 : Int) ∣ (Mb 106 i).toInt := by
        rw [← c6]
        exact Int.dvd_natAbs.mp (Int.ofNat_dvd.mpr (zgc_dvd (f := Mb 106) c))
      obtain ⟨y, hy⟩ := dv
      have hb2 := r6 i c
      unfold zab at hb2
      rw [zq_exact (q := y) (by omega) (by rw [i6]; omega) (by rw [hy, i6, Int.mul_comm]), ← hy]
      rcases Nat.lt_or_ge i 8 with c8 | c8
      · rw [pr_lt c8, u6 i c8]
      · rw [pr_ge c8, w6 i c8 c]; rfl
    · rw [pr_ge (by omega), pr_ge c, Int.mul_zero]
  have hB : ∀ i, (prP 8 (M0 (2 + t))).1 i = (zgc (M0 (2 + t)) 8 : Int) * (prP 16 (Md 107)).1 i := fun i => by
    show pr 8 (M0 (2 + t)) i = _ * pr 16 (Md 107) i
    rcases Nat.lt_or_ge i 16 with c | c
    · rw [pr_lt c, f4 i c, f1 107 (by decide)]
      have dv : (zgc (M0 (2 + t)) 8 : Int) ∣ (Mb 107 i).toInt := by
        rw [← c7]
        exact Int.dvd_natAbs.mp (Int.ofNat_dvd.mpr (zgc_dvd (f := Mb 107) c))
      obtain ⟨y, hy⟩ := dv
      have hb2 := r7 i c
      unfold zab at hb2
      rw [zq_exact (q := y) (by omega) (by rw [i7]; omega) (by rw [hy, i7, Int.mul_comm]), ← hy]
      rcases Nat.lt_or_ge i 8 with c8 | c8
      · rw [pr_lt c8, u7 i c8]
      · rw [pr_ge c8, w7 i c8 c]; rfl
    · rw [pr_ge (by omega), pr_ge c, Int.mul_zero]
  obtain ⟨a', b', hok⟩ := hg _ _ _ _ (by omega) (by omega) hA hB
  obtain ⟨_, bb2, _, _⟩ := gok_b hok
  obtain ⟨_, _, ⟨kk, _, _, k3, _⟩, _⟩ := gok_lead hok
  have g8 : dl 8 G := dl_mono (by have := hok.2.2.2.2.2.2.2.1; omega) hok.2.2.2.2.2.2.1
  refine s_Mo_share (by decide) (by decide) (by decide) (by decide) hN0 hok (fun Me f5 f6 => s_Mo_divisor (by unfold zab; rw [i6]; omega) (by unfold zab; rw [i7]; omega) (s_com190 (fun Mf f7 f8 => ?_)))
  have eg0 : Nat.gcd (zab (lN (zgc (M0 (2 + s)) 8))) (zab (lN (zgc (M0 (2 + t)) 8))) = Nat.gcd (zgc (M0 (2 + s)) 8) (zgc (M0 (2 + t)) 8) := by
    rw [zab_lN (by omega), zab_lN (by omega)]
  rw [eg0] at f8
  rw [e0]
  refine k Mf (fun a ha => ?_) (fun i hi => ?_) g8
  · rw [f7 a (by omega), f5 a (by omega) (by omega), f3 a (by omega), f1 a (by omega), b1 a (by omega), a1 a (by omega)]
  · have lle : Nat.gcd (zgc (M0 (2 + s)) 8) (zgc (M0 (2 + t)) 8) ≤ 99999 := Nat.le_trans (Nat.gcd_le_left _ p6) l6
    have li : (lN (Nat.gcd (zgc (M0 (2 + s)) 8) (zgc (M0 (2 + t)) 8))).toInt = (Nat.gcd (zgc (M0 (2 + s)) 8) (zgc (M0 (2 + t)) 8) : Int) := pk_lT (by omega)
    generalize Nat.gcd (zgc (M0 (2 + s)) 8) (zgc (M0 (2 + t)) 8) = l at lle li f8 ⊢
    have hb := bb2 i
    have hm : (G.1 i * (l : Int)).natAbs ≤ 100000000 * 99999 := by
      rw [Int.natAbs_mul]
      unfold ab at hb
      exact Nat.mul_le_mul (by omega) (by omega)
    rw [f8 i hi, zx_mul (by rw [f6 i hi, li]; omega) (by rw [f6 i hi, li]; omega), f6 i hi, li, Int.mul_comm]
theorem s_Mo_common0 {P : Int32 → zM → zN → Prop} {r s t : Nat} {M0 M : zM} {N : zN} (hI : zreg M0 N) (hr : r < 4) (hs : s < 4) (ht : t < 4) (hz : zdg (M0 (2 + s)) 8 = 0 ∨ zdg (M0 (2 + t)) 8 = 0)
    (k : ∀ (M' : zM) (c q : Nat), (c = 106 ∧ q = s ∨ c = 107 ∧ q = t) → (zdg (M0 (2 + s)) 8 = 0 → c = 107 ∧ q = t) → (zdg (M0 (2 + s)) 8 ≠ 0 → c = 106 ∧ q = s) → (∀ a, ¬ (104 ≤ a ∧ a ≤ 117) → M' a = M a) → (∀ i, i < 8 → (M' c i).toInt = zsgn (M0 (2 + q)) * (M0 (2 + q) i).toInt) → (∀ i, 8 ≤ i → i < 16 → M' c i = 0) → w_Mo_settle (nI r) c (2 : Int32) M' (zpui N 99 0 0) (fun r35 N37 => P r35 M' N37)) : w_Mo_common (nI r) (nI s) (nI t) M N P := by
  refine s_isReg (fun _ => ⟨fun h => absurd h (by decide), fun _ => ?_⟩) (fun h => absurd ⟨r, hr, rfl⟩ h)
  refine s_isReg (fun _ => ⟨fun h => absurd h (by decide), fun _ => ?_⟩) (fun h => absurd ⟨s, hs, rfl⟩ h)
  refine s_isReg (fun _ => ⟨fun h => absurd h (by decide), fun _ => ?_⟩) (fun h => absurd ⟨t, ht, rfl⟩ h)
  intro N0 e0
  have hz0 : N0 99 0 = 0 := by rw [e0, zpui_eq]
  have hzl : ∀ q, zld N0 q = zld N q := fun q => by rw [e0]; unfold zld; rw [zpui_ne (by decide)]
  rw [hz0]
  refine ⟨fun _ => ?_, fun h => absurd (by decide) h⟩
  refine s_Mo_load hs (by decide) (fun Ma a1 a2 => s_Mo_load ht (by decide) (fun Mb b1 b2 => ?_))
  obtain ⟨u6, w6⟩ := zld_row (M' := Mb) (c := 106) hI hs (fun i hi => by rw [b1 106 (by decide), a2 i hi, hzl])
  obtain ⟨u7, w7⟩ := zld_row (M' := Mb) (c := 107) hI ht (fun i hi => by rw [b2 i hi, hzl])
  have r6 : ∀ i, i < 16 → zab (Mb 106 i) ≤ 99999 := fun i hi => by
    rcases Nat.lt_or_ge i 8 with c | c
    · rw [u6 i c]; exact z_regab hI hs c
    · rw [w6 i c hi]; decide
  have r7 : ∀ i, i < 16 → zab (Mb 107 i) ≤ 99999 := fun i hi => by
    rcases Nat.lt_or_ge i 8 with c | c
    · rw [u7 i c]; exact z_regab hI ht c
    · rw [w7 i c hi]; decide
  have c6 : zgc (Mb 106) 16 = zgc (M0 (2 + s)) 8 := by rw [zgc_up (n := 8) (by decide) w6]; exact zgc_congr 8 u6
  have c7 : zgc (Mb 107) 16 = zgc (M0 (2 + t)) 8 := by rw [zgc_up (n := 8) (by decide) w7]; exact zgc_congr 8 u7
  have pos : ∀ q, zdg (M0 q) 8 ≠ 0 → 0 < zgc (M0 q) 8 := fun q hq => by
    obtain ⟨d, hd⟩ : ∃ d, zdg (M0 q) 8 = d + 1 := ⟨zdg (M0 q) 8 - 1, by omega⟩
    obtain ⟨g1, g2, _⟩ := zdg_s hd
    exact zgc_pos g1 g2
  have l6 := zgc_le (f := M0 (2 + s)) (B := 99999) 8 (fun i hi => z_regab hI hs hi)
  have l7 := zgc_le (f := M0 (2 + t)) (B := 99999) 8 (fun i hi => z_regab hI ht hi)
  have fb : ∀ a, ¬ (104 ≤ a ∧ a ≤ 117) → Mb a = M a := fun a ha => by rw [b1 a (by omega), a1 a (by omega)]
  have go : ∀ (c q : Nat), (c = 106 ∧ q = s ∨ c = 107 ∧ q = t) → (zdg (M0 (2 + s)) 8 = 0 → c = 107 ∧ q = t) → (zdg (M0 (2 + s)) 8 ≠ 0 → c = 106 ∧ q = s) → (∀ i, i < 8 → Mb c i = M0 (2 + q) i) → (∀ i, 8 ≤ i → i < 16 → Mb c i = 0) → (∀ i, i < 16 → zab (Mb c i) ≤ 99999) → J_Mo_common_107 P (nI r) c Mb N0 := fun c q hc g1 g2 hu hw hb => by
    have hc16 : zlong c = 16 := by rcases hc with ⟨e, _⟩ | ⟨e, _⟩ <;> rw [e] <;> decide
    have hcr : 104 ≤ c ∧ c ≤ 117 := by rcases hc with ⟨e, _⟩ | ⟨e, _⟩ <;> rw [e] <;> decide
    have hsg : zsgn (Mb c) = zsgn (M0 (2 + q)) := by
      unfold zsgn
      rw [zdg_congr hu]
      rcases Nat.eq_zero_or_pos (zdg (M0 (2 + q)) 8) with e | e
      · rw [hu _ (by omega)]
      · have := zdg_le (M0 (2 + q)) 8
        rw [hu _ (by omega)]
    refine s_com107 hc16 hw hb (fun M' f1 f2 => ?_)
    unfold J_Mo_common_139
    rw [e0]
    refine k M' c q hc g1 g2 (fun a ha => by rw [f1 a (by omega)]; exact fb a ha) (fun i hi => by rw [f2 i (by omega), hsg, hu i hi]) (fun i x y => ?_)
    have := f2 i y
    rw [hw i x y] at this
    have e3 : (M' c i).toInt = _ * (0 : Int) := this
    rw [Int.mul_zero] at e3
    rw [← Int64.toInt_inj, e3]; rfl
  refine s_Mo_contentOf (by decide) (fun i hi => by have := r6 i hi; omega) (s_Mo_contentOf (by decide) (fun i hi => by have := r7 i hi; omega) ?_)
  rw [c6, c7]
  by_cases z1 : zdg (M0 (2 + s)) 8 = 0
  · have e6 : zgc (M0 (2 + s)) 8 = 0 := zgc_zero (zdg_0 z1)
    rw [e6]
    refine ⟨fun _ => ⟨fun c => absurd rfl c, fun _ => go 107 t (Or.inr ⟨rfl, rfl⟩) (fun _ => ⟨rfl, rfl⟩) (fun c => absurd z1 c) u7 w7 r7⟩, fun c => absurd rfl c⟩
  · have z2 : zdg (M0 (2 + t)) 8 = 0 := by rcases hz with c | c; exact absurd c z1; exact c
    have p6 := pos _ z1
    have ne6 : ¬ lN (zgc (M0 (2 + s)) 8) = 0 := fun c => by
      have := (pk_lEQ (a := zgc (M0 (2 + s)) 8) (b := 0) (by omega) (by decide)).mp c
      omega
    have e7 : zgc (M0 (2 + t)) 8 = 0 := zgc_zero (zdg_0 z2)
    rw [e7]
    exact ⟨fun c => absurd c ne6, fun _ => ⟨fun c => absurd rfl c, fun _ => ⟨fun _ => go 106 s (Or.inl ⟨rfl, rfl⟩) (fun c => absurd c z1) (fun _ => ⟨rfl, rfl⟩) u6 w6 r6, fun c => absurd c ne6⟩⟩⟩
theorem gz_pos {A B G a b : Pl} (h : gz A B G a b) : ∃ G' a' b' g, gz A B G' a' b' ∧ 0 < G'.1 g ∧ dl (g + 1) G' := by
  obtain ⟨hG, h1, h2, u, v, c, hc, h3⟩ := id h
  rcases pl_top G with d | ⟨g, d1, d2⟩
  · obtain ⟨i, hi⟩ := prim_ne hG
    exact absurd (d i) hi
  · rcases Int.lt_or_gt_of_ne d1 with q | q
    · refine ⟨plK (-1) G, plK (-1) a, plK (-1) b, g, ⟨fun e he => hG e (fun i => ?_), fun x => ?_, fun x => ?_, u, v, -c, by omega, fun x => ?_⟩, ?_, dl_K d2⟩
      · obtain ⟨y, hy⟩ := he i
        have hy' : -1 * G.1 i = e * y := hy
        exact ⟨-y, by grind⟩
      · rw [ev_K, ev_K, h1 x]; grind
      · rw [ev_K, ev_K, h2 x]; grind
      · rw [ev_K, h3 x]; grind
      · show 0 < -1 * G.1 g
        omega
    · exact ⟨G, a, b, g, h, q, d2⟩
theorem fit_iff {f g : Nat → Int64} (he : ∀ i, i < 8 → f i = g i) (h0 : ∀ i, 8 ≤ i → i < 16 → f i = 0) : zfit g 8 ↔ zfit f 16 := by
  refine ⟨fun q i hi => ?_, fun q i hi => ?_⟩
  · rcases Nat.lt_or_ge i 8 with g8 | g8
    · have := q i g8
      unfold zfo at this ⊢
      rw [he i g8]; exact this
    · exact ⟨fun h => by omega, fun _ => h0 i g8 hi⟩
  · have := q i (by omega)
    unfold zfo at this ⊢
    rw [← he i hi]; exact this
/-- a row that is not 0, as a polynomial -/
theorem row_top {f : Nat → Int64} {n : Nat} (h : zdg f 8 = n + 1) : (prP 8 f).1 n ≠ 0 ∧ dl (n + 1) (prP 8 f) ∧ n < 8 := by
  obtain ⟨g1, g2, g3⟩ := zdg_s h
  refine ⟨fun c => ?_, fun i hi => ?_, g1⟩
  · have e : (prP 8 f).1 n = (f n).toInt := pr_lt g1
    rw [e] at c
    exact g2 (by rw [← Int64.toInt_inj, c]; rfl)
  · show pr 8 f i = 0
    rcases Nat.lt_or_ge i 8 with c | c
    · rw [pr_lt c, g3 i (by omega) c]; rfl
    · exact pr_ge c
theorem row_reg {M : zM} {N : zN} (hI : zreg M N) {r : Nat} (hr : r < 4) (i : Nat) : ab ((prP 8 (M (2 + r))).1 i) ≤ 99999 := by
  show ab (pr 8 (M (2 + r)) i) ≤ 99999
  rcases Nat.lt_or_ge i 8 with c | c
  · rw [pr_lt c]
    have := z_regab hI hr c
    unfold zab at this
    unfold ab
    omega
  · rw [pr_ge c]; decide
theorem u_common {a1 a2 a3 : Int32} {M : zM} {N : zN} {K : zM → zN → Prop} {Q : Int32 → zM → Prop} (hI : zreg M N) (hN : zgr N) (hk : ∀ M' N', zreg M' N' → zkp M N M' N' → K M' N') (hQ : ∀ q M1, w_Mo_common a1 a2 a3 M1 N (fun r4 M5 N6 => zth K q r4 M5 N6) → Q q M1) : w_La_common a1 a2 a3 M Q := by
  by_cases h : zR a1 4 ∧ zR a2 4 ∧ zR a3 4
  · obtain ⟨⟨r, hr, rfl⟩, ⟨s, hs, rfl⟩, ⟨t, ht, rfl⟩⟩ := h
    refine s_reg (fun _ => s_reg (fun _ => s_reg (fun _ => ⟨z_gn hs, z_gn ht, ?_⟩) (fun h => absurd ⟨t, ht, rfl⟩ h)) (fun h => absurd ⟨s, hs, rfl⟩ h)) (fun h => absurd ⟨r, hr, rfl⟩ h)
    rw [nI_clamp (by omega), nI_clamp (by omega)]
    have bs : ∀ i, i < 8 → zab (M (2 + s) i) ≤ 699993 := fun i hi => by have := z_regab hI hs hi; omega
    have bt : ∀ i, i < 8 → zab (M (2 + t) i) ≤ 699993 := fun i hi => by have := z_regab hI ht hi; omega
    by_cases hz : zdg (M (2 + s)) 8 = 0 ∨ zdg (M (2 + t)) 8 = 0
    · refine s_CD_find0 (a1 := 2 + s) (a2 := 2 + t) (z_r8 hs) (z_r8 ht) (by omega) (by omega) hz bs bt (fun Mc f1 f2 => ?_)
      -- which row the reference takes
      have row : ∀ c q : Nat, (zdg (M (2 + s)) 8 = 0 → c = 107 ∧ q = t) → (zdg (M (2 + s)) 8 ≠ 0 → c = 106 ∧ q = s) → ∀ i, i < 8 → zsgn (M (if zdg (M (2 + t)) 8 = 0 then 2 + s else 2 + t)) * (M (if zdg (M (2 + t)) 8 = 0 then 2 + s else 2 + t) i).toInt = zsgn (M (2 + q)) * (M (2 + q) i).toInt := fun c q g1 g2 i hi => by
        by_cases z2 : zdg (M (2 + t)) 8 = 0
        · rw [if_pos z2]
          by_cases z1 : zdg (M (2 + s)) 8 = 0
          · rw [(g1 z1).2, zdg_0 z1 i hi, zdg_0 z2 i hi]
            show _ * (0 : Int) = _ * (0 : Int)
            rw [Int.mul_zero, Int.mul_zero]
          · rw [(g2 z1).2]
        · rw [if_neg z2]
          have z1 : zdg (M (2 + s)) 8 = 0 := by rcases hz with c | c; exact c; exact absurd c z2
          rw [(g1 z1).2]
      have hXX : Q 2 Mc → (3 = 1 → Q 1 Mc) ∧ (3 = 3 → Q 2 Mc) ∧ (3 = 1 ∨ 3 = 3) := fun h => ⟨fun g => absurd g (by decide), fun _ => h, Or.inr rfl⟩
      by_cases z1 : zdg (M (2 + s)) 8 = 0
      · refine z_endX (cc := 2) (c := 13) (a2 := 107) (n := 8) hr (by decide) (by decide) (by decide) (by decide) (by decide) hI hk (fun a ha => f1 a (by omega)) hXX (fun q M2 _ hW => hQ _ _ (s_Mo_common0 (M0 := M) hI hr hs ht hz (fun M' c q g0 g1 g2 g3 g4 g5 => ?_)))
        have hc := (g1 z1).1
        subst hc
        have he : ∀ i, i < 8 → M' 107 i = Mc 13 i := fun i hi => by
          rw [← Int64.toInt_inj, g4 i hi, f2 i hi, row 107 q g1 g2 i hi]
        exact hW M' _ g3 he (fit_iff he g5) rfl
      · refine z_endX (cc := 2) (c := 13) (a2 := 106) (n := 8) hr (by decide) (by decide) (by decide) (by decide) (by decide) hI hk (fun a ha => f1 a (by omega)) hXX (fun q M2 _ hW => hQ _ _ (s_Mo_common0 (M0 := M) hI hr hs ht hz (fun M' c q g0 g1 g2 g3 g4 g5 => ?_)))
        have hc := (g2 z1).1
        subst hc
        have he : ∀ i, i < 8 → M' 106 i = Mc 13 i := fun i hi => by
          rw [← Int64.toInt_inj, g4 i hi, f2 i hi, row 106 q g1 g2 i hi]
        exact hW M' _ g3 he (fit_iff he g5) rfl
    · have z1 : zdg (M (2 + s)) 8 ≠ 0 := fun c => hz (Or.inl c)
      have z2 : zdg (M (2 + t)) 8 ≠ 0 := fun c => hz (Or.inr c)
      obtain ⟨n, hn⟩ : ∃ n, zdg (M (2 + s)) 8 = n + 1 := ⟨zdg (M (2 + s)) 8 - 1, by omega⟩
      obtain ⟨m, hm⟩ : ∃ m, zdg (M (2 + t)) 8 = m + 1 := ⟨zdg (M (2 + t)) 8 - 1, by omega⟩
      obtain ⟨A1, A2, A3⟩ := row_top hn
      obtain ⟨B1, B2, B3⟩ := row_top hm
      obtain ⟨G0, a0, b0, u, v, c, hb1, hb2, hb3, hb4, hb5⟩ := bezout (A := prP 8 (M (2 + s))) (B := prP 8 (M (2 + t))) ⟨n, A1⟩
      obtain ⟨G, a, b, g, hgz, G1, G2⟩ := gz_pos (show gz (prP 8 (M (2 + s))) (prP 8 (M (2 + t))) G0 a0 b0 from ⟨hb1, hb3, hb4, u, v, c, hb2, hb5⟩)
      have hg := gall_reg hgz A1 A2 B1 B2 G1 G2 (by omega) (by omega) (row_reg hI hs) (row_reg hI ht)
      refine s_CD_find (a1 := 2 + s) (a2 := 2 + t) (z_r8 hs) (z_r8 ht) (by omega) (by omega) hg z1 z2 bs bt (fun Mc f1 f2 => ?_)
      refine z_endX (cc := 2) (c := 13) (a2 := 108) (n := 8) hr (by decide) (by decide) (by decide) (by decide) (by decide) hI hk (fun a ha => f1 a (by omega)) (fun h => ⟨fun g => absurd g (by decide), fun _ => h, Or.inr rfl⟩) (fun q M2 _ hW => hQ _ _ (s_Mo_common (M0 := M) hI hN hr hs ht hg z1 z2 (fun M' g1 g2 g3 => ?_)))
      have he : ∀ i, i < 8 → M' 108 i = Mc 13 i := fun i hi => by
        rw [← Int64.toInt_inj, g2 i (by omega), f2 i hi]
      exact hW M' _ g1 he (fit_iff he (fun i x y => by rw [← Int64.toInt_inj, g2 i y, g3 i x, Int.mul_zero]; rfl)) rfl
  · have hb : Q 1 M := by
      refine hQ _ _ ?_
      have hJ : J_Mo_common_27 (fun r4 M5 N6 => zth K 1 r4 M5 N6) a1 a2 a3 1 M N := fun N4 e => by
        subst e
        rw [zpui_eq]
        exact ⟨fun h => absurd h (by decide), fun _ => z_th zpui_eq (fun h => absurd h (by decide)) (hk _ _ (z_reg0 hI 1) (z_kp0 1))⟩
      refine s_isReg (fun h1 => ⟨fun h => absurd h (by decide), fun _ => ?_⟩) (fun _ => ⟨fun _ => hJ, fun h => absurd rfl h⟩)
      refine s_isReg (fun h2 => ⟨fun h => absurd h (by decide), fun _ => ?_⟩) (fun _ => ⟨fun _ => hJ, fun h => absurd rfl h⟩)
      exact s_isReg (fun h3 => absurd ⟨h1, h2, h3⟩ h) (fun _ => ⟨fun _ => hJ, fun h => absurd rfl h⟩)
    have hX : (1 = 1 → Q 1 M) ∧ (1 = 3 → Q 2 M) ∧ (1 = 1 ∨ 1 = 3) := ⟨fun _ => hb, fun h => absurd h (by decide), Or.inl rfl⟩
    exact s_reg (fun h1 => s_reg (fun h2 => s_reg (fun h3 => absurd ⟨h1, h2, h3⟩ h) (fun _ => hX)) (fun _ => hX)) (fun _ => hX)
