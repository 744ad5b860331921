/-! note, isFactor, splits of the reference. -/
theorem s_note {K : zM → zN → Prop} {a1 r : Nat} {M : zM} {N : zN} (z1 : zlong a1 = 16) (n1 : a1 ≠ 103) (hr : r < 7) (hN : N 99 6 = nI r)
    (k : ∀ M' : zM, (∀ a, a ≠ 103 → M' a = M a) → (∀ i, i < 8 → M' 103 (8 * r + i) = M a1 i) → (∀ j, ¬ (8 * r ≤ j ∧ j < 8 * r + 8) → M' 103 j = M 103 j) → K M' (zpui N 99 6 (nI (r + 1)))) : w_Mo_note a1 M N K := by
  have key : ∀ u j (M1 : zM), j + u = 8 → (∀ a, a ≠ 103 → M1 a = M a) → (∀ i, i < j → M1 103 (8 * r + i) = M a1 i) → (∀ j, ¬ (8 * r ≤ j ∧ j < 8 * r + 8) → M1 103 j = M 103 j) → L_Mo_note_2 K a1 N (u + 1) (nI j) M1 := by
    intro u
    induction u with
    | zero =>
      intro j M1 hj g1 g2 g3
      have : j = 8 := by omega
      subst this
      refine ⟨fun _ N1 e1 => ?_, fun c => absurd (Int32.le_refl _) c⟩
      rw [hN, nI_1] at e1
      rw [e1]
      exact k M1 g1 g2 g3
    | succ u ih =>
      intro j M1 hj g1 g2 g3
      have e8 : (8 : Int32) * nI r + nI j = nI (8 * r + j) := by rw [show (8 : Int32) = nI 8 from rfl, pk_mul, nI_add]
      refine ⟨fun c => absurd c (nI_ge (b := 8) (by omega) (by omega)), fun _ => ?_⟩
      rw [hN, e8, nI_clamp (by omega), nI_clamp (by omega)]
      refine ⟨by rw [z1]; exact vp_in_nI (by omega) (by decide), vp_in_nI (N := 56) (by omega) (by decide), fun M2 e2 => ?_⟩
      rw [e2, nI_1, g1 a1 n1]
      refine ih (j + 1) _ (by omega) (fun a x => by rw [zput_ne x]; exact g1 a x) (fun i hi => ?_) (fun t ht => ?_)
      · by_cases c : i = j
        · subst c; rw [zput_eq]
        · rw [zput_n2 (by omega)]; exact g2 i (by omega)
      · rw [zput_n2 (by omega)]; exact g3 t ht
  exact ⟨9, key 8 0 M (by decide) (fun _ _ => rfl) (fun i hi => absurd hi (Nat.not_lt_zero _)) (fun _ _ => rfl)⟩
theorem cnd_pl {P : Nat} {x c : Nat → Int64} {l d : Nat} (hd : d < 16) (h : cnd P x l d c) : (prP 16 c).1 d = l ∧ dl (d + 1) (prP 16 c) ∧ (∀ i, i < d → (P : Int) ∣ (prP 16 c).1 i - l * (x i).toInt ∧ 2 * ab ((prP 16 c).1 i) ≤ P) := by
  obtain ⟨h1, h2, h3⟩ := h
  refine ⟨?_, fun i hi => ?_, fun i hi => ?_⟩
  · rw [← h2]; exact pr_lt hd
  · show pr 16 c i = 0
    rcases Nat.lt_or_ge i 16 with q | q
    · rw [pr_lt q, h3 i (by omega) q]; rfl
    · exact pr_ge q
  · rw [show (prP 16 c).1 i = (c i).toInt from pr_lt (by omega)]
    exact h1 i hi
theorem cnd_eq {P : Nat} {x c : Nat → Int64} {l d : Nat} {g : Pl} (hd : d < 16) (h : cnd P x l d c) (g1 : g.1 d = l) (g2 : dl (d + 1) g) (g3 : ∀ i, i < d → (P : Int) ∣ g.1 i - l * (x i).toInt) (g4 : ∀ i, 2 * ab (g.1 i) < P) : prP 16 c = g := by
  obtain ⟨h1, h2, h3⟩ := cnd_pl hd h
  refine pl_ext (fun i => ?_)
  rcases Nat.lt_trichotomy i d with q | q | q
  · obtain ⟨a1, a2⟩ := h3 i q
    refine eq_near (m := P) ?_ a2 (g4 i)
    have := Int.dvd_sub a1 (g3 i q)
    rw [show (prP 16 c).1 i - l * (x i).toInt - (g.1 i - l * (x i).toInt) = (prP 16 c).1 i - g.1 i by omega] at this
    exact this
  · rw [q, h1, g1]
  · rw [h2 i (by omega), g2 i (by omega)]
theorem s_isFactor {K : Int32 → zM → zN → Prop} {l d m w r : Nat} {W X : Pl} {M : zM} {N : zN} (hW : wld W w) (dX : dvz X W) (hX : prP 16 (M 105) = X) (hd : d < 8) (m0 : 0 < m) (m1 : m < 340000000) (l0 : 0 < l) (l1 : l ≤ 1000000) (hx : zrw m 16 (M 116)) (hr : r < 7) (hN : N 99 6 = nI r)
    (yes : ∀ M' : zM, (∀ a, a ≠ 103 → a ≠ 105 → a ≠ 109 → a ≠ 110 → a ≠ 117 → M' a = M a) → cnd m (M 116) l d (M' 117) → prim (prP 16 (M' 117)) → (∀ x, ev X x = ev (prP 16 (M' 117)) x * ev (prP 16 (M' 105)) x) → (∀ i, i < 8 → M' 103 (8 * r + i) = M' 117 i) → (∀ j, ¬ (8 * r ≤ j ∧ j < 8 * r + 8) → M' 103 j = M 103 j) → K 1 M' (zpui N 99 6 (nI (r + 1))))
    (no : ∀ M' : zM, (∀ a, a ≠ 109 → a ≠ 110 → a ≠ 117 → M' a = M a) → cnd m (M 116) l d (M' 117) → (prim (prP 16 (M' 117)) → dvz (prP 16 (M' 117)) X → False) → K 0 M' N) : w_Mo_isFactor (lN l) (nI d) (lN m) M N K := by
  have z : zlong 117 = 16 := by decide
  refine s_Mo_guess (by decide) (by decide) (by omega) m0 (by omega) l1 (fun i hi => hx i (by omega)) (fun M2 f1 hc => ?_)
  have hw := cnd_wd (by omega) l1 hc
  have hz := cnd_zdg (by omega) l0 hc
  have hgl : zgc (M2 117) 16 < 2 ^ 62 := by
    have := zgc_le (f := M2 117) (B := 1000000000) 16 (fun i hi => by have := hw i hi; unfold zab; omega)
    omega
  refine s_Mo_contentOf z (fun i hi => by have := hw i hi; unfold zab; omega) ⟨fun h => ⟨rfl, no M2 (fun a _ _ x => f1 a x) hc (fun g _ => h (by rw [prim_zgc16 g]; rfl))⟩, fun h => ?_⟩
  have hg1 : zgc (M2 117) 16 = 1 := (pk_lEQ (a := zgc (M2 117) 16) (b := 1) (by omega) (by decide)).mp h
  have hpr := zgc_prim16 hg1
  have e105 : M2 105 = M 105 := f1 105 (by decide)
  refine s_md hW z (by decide) (by decide) (by decide) (by decide) (by decide) (by rw [e105, hX]; exact dX) (fun i hi => ?_) (by omega) (fun M8 f2 f3 => ⟨fun _ => ?_, fun c => absurd c (by decide)⟩) (fun M8 f2 f3 => ⟨fun c => absurd rfl c, fun _ => ⟨rfl, ?_⟩⟩)
  · have := hw i hi
    unfold ab
    omega
  · refine s_note z (by decide) hr hN (fun M11 g1 g2 g3 => s_Mo_copy (by decide) (by decide) (by decide) (fun M14 v1 v2 => ⟨rfl, ?_⟩))
    have e117 : M14 117 = M2 117 := by rw [v1 117 (by decide), g1 117 (by decide), f2 117 (by decide) (by decide)]
    refine yes M14 (fun a x y z t u => by rw [v1 a y, g1 a x, f2 a t z]; exact f1 a u) (by rw [e117]; exact hc) (by rw [e117]; exact hpr) (fun x => ?_) (fun i hi => ?_) (fun j hj => ?_)
    · rw [e117, prP_congr v2, g1 110 (by decide)]
      have := f3 x
      rw [e105, hX] at this
      exact this
    · rw [v1 103 (by decide), g2 i hi, e117, f2 117 (by decide) (by decide)]
    · rw [v1 103 (by decide), g3 j hj, f2 103 (by decide) (by decide), f1 103 (by decide)]
  · rw [e105, hX] at f3
    have e117 : M8 117 = M2 117 := f2 117 (by decide) (by decide)
    exact no M8 (fun a x y z => by rw [f2 a y x]; exact f1 a z) (by rw [e117]; exact hc) (fun _ h => f3 (by rw [e117] at h; exact h))
/-- the search over the divisors of the leading number -/
theorem s_spl55 {K : Int32 → zM → zN → Prop} {L d m w r : Nat} {W X : Pl} {M : zM} {N : zN} {T : Pl → Prop} (hW : wld W w) (dX : dvz X W) (hX : prP 16 (M 105) = X) (hd : d < 8) (m0 : 0 < m) (m1 : m < 340000000) (l0 : 0 < L) (l1 : L < 100000) (hx : zrw m 16 (M 116)) (hr : r < 7) (hN : N 99 6 = nI r)
    (hT1 : ∀ g, dvz g X → prim g → 0 < g.1 d → dl (d + 1) g → T g → ∃ l : Nat, (l : Int) = g.1 d ∧ l ∣ L) (hT2 : ∀ g, dvz g X → prim g → 0 < g.1 d → dl (d + 1) g → T g → ∀ (l : Nat) c, (l : Int) = g.1 d → cnd m (M 116) l d c → prP 16 c = g)
    (yes : ∀ (l : Nat) (M' : zM), 0 < l → (∀ a, a ≠ 103 → a ≠ 105 → a ≠ 109 → a ≠ 110 → a ≠ 117 → M' a = M a) → cnd m (M 116) l d (M' 117) → prim (prP 16 (M' 117)) → (∀ x, ev X x = ev (prP 16 (M' 117)) x * ev (prP 16 (M' 105)) x) → (∀ i, i < 8 → M' 103 (8 * r + i) = M' 117 i) → (∀ j, ¬ (8 * r ≤ j ∧ j < 8 * r + 8) → M' 103 j = M 103 j) → K 1 M' (zpui N 99 6 (nI (r + 1))))
    (no : ∀ M' : zM, (∀ a, a ≠ 109 → a ≠ 110 → a ≠ 117 → M' a = M a) → (∀ g, dvz g X → prim g → 0 < g.1 d → dl (d + 1) g → T g → False) → K 0 M' N) : ∃ f, L_Mo_splits_55 K (nI d) (lN m) (lN L) f (0 : Int32) (1 : Int64) M N := by
  have fin : ∀ (f k : Nat) (M1 : zM) (N1 : zN), K 1 M1 N1 → L_Mo_splits_55 K (nI d) (lN m) (lN L) (f + 1) 1 (lN k) M1 N1 := fun f k M1 N1 h =>
    ⟨fun _ => ⟨rfl, h⟩, fun _ => ⟨fun _ => ⟨rfl, h⟩, fun c => absurd c (by decide)⟩⟩
  have done : ∀ (k : Nat) (M1 : zM), L < k * k → (∀ a, a ≠ 109 → a ≠ 110 → a ≠ 117 → M1 a = M a) → (∀ g, dvz g X → prim g → 0 < g.1 d → dl (d + 1) g → T g → ∀ j, j < k → j ∣ L → (j : Int) ≠ g.1 d ∧ ((L / j : Nat) : Int) ≠ g.1 d) → K 0 M1 N := by
    intro k M1 c f1 hI
    refine no M1 f1 (fun g a1 a2 a3 a4 a5 => ?_)
    obtain ⟨lg, lg1, y, hy⟩ := hT1 g a1 a2 a3 a4 a5
    by_cases c3 : lg < k
    · exact (hI g a1 a2 a3 a4 a5 lg c3 ⟨y, hy⟩).1 lg1
    · have hy2 : y < k := by
        rcases Nat.lt_or_ge y k with q | q
        · exact q
        · have := Nat.mul_le_mul (show k ≤ lg by omega) q
          omega
      have y0 : 0 < y := by
        rcases Nat.eq_zero_or_pos y with q | q
        · rw [q, Nat.mul_zero] at hy; omega
        · exact q
      exact (hI g a1 a2 a3 a4 a5 y hy2 ⟨lg, by rw [hy, Nat.mul_comm]⟩).2 (by rw [hy, Nat.mul_div_cancel _ y0]; exact lg1)
  have key : ∀ e k (M1 : zM), k + e = 1001 → 1 ≤ k → (∀ a, a ≠ 109 → a ≠ 110 → a ≠ 117 → M1 a = M a) → (∀ g, dvz g X → prim g → 0 < g.1 d → dl (d + 1) g → T g → ∀ j, j < k → j ∣ L → (j : Int) ≠ g.1 d ∧ ((L / j : Nat) : Int) ≠ g.1 d) → L_Mo_splits_55 K (nI d) (lN m) (lN L) (e + 2) 0 (lN k) M1 N := by
    intro e
    induction e with
    | zero =>
      intro k M1 hk k1 f1 hI
      have hkk : lN k * lN k = lN (k * k) := lN_mul k k
      have hk2 : k = 1001 := by omega
      subst hk2
      refine ⟨fun _ => ⟨rfl, done 1001 M1 (by omega) f1 hI⟩, fun c => absurd ?_ c⟩
      rw [hkk, pk_lLT (by omega) (by decide)]
      omega
    | succ e ih =>
      intro k M1 hk k1 f1 hI
      have hkk : lN k * lN k = lN (k * k) := lN_mul k k
      have hkb : k * k ≤ 1001 * 1001 := Nat.mul_le_mul (by omega) (by omega)
      have kne : ¬ lN k = 0 := fun c => by
        have := (pk_lEQ (a := k) (b := 0) (by omega) (by decide)).mp c
        omega
      refine ⟨fun c => ⟨rfl, ?_⟩, fun c => ⟨fun q => absurd rfl q, fun _ => ⟨kne, fun c2 x9 e9 => ?_, fun c2 => ?_⟩⟩⟩
      · rw [hkk, pk_lLT (by omega) (by omega)] at c
        exact done k M1 c f1 hI
      · rw [e9, lN_1]
        refine ih (k + 1) M1 (by omega) (by omega) f1 (fun g a1 a2 a3 a4 a5 j hj hjl => ?_)
        by_cases ej : j = k
        · exfalso
          subst ej
          have hrem := pk_lRem (a := L) (b := j) (by omega) (by omega) (by omega)
          rw [hrem] at c2
          exact c2 (by rw [Nat.mod_eq_zero_of_dvd hjl]; rfl)
        · exact hI g a1 a2 a3 a4 a5 j (by omega) hjl
      · have hrem := pk_lRem (a := L) (b := k) (by omega) (by omega) (by omega)
        rw [hrem] at c2
        have hmod : L % k = 0 := by
          have hlt : L % k < k := Nat.mod_lt _ (by omega)
          exact (pk_lEQ (a := L % k) (b := 0) (by omega) (by decide)).mp c2
        have hkl : k ∣ L := Nat.dvd_of_mod_eq_zero hmod
        have hkle : k ≤ L := Nat.le_of_dvd l0 hkl
        have hq0 : 0 < L / k := Nat.div_pos hkle (by omega)
        have hql : L / k ≤ L := Nat.div_le_self _ _
        have u1 : M1 116 = M 116 := f1 116 (by decide) (by decide) (by decide)
        have u2 : M1 105 = M 105 := f1 105 (by decide) (by decide) (by decide)
        have u3 : M1 103 = M 103 := f1 103 (by decide) (by decide) (by decide)
        have hgf : ∀ (l : Nat) (c : Nat → Int64), cnd m (M 116) l d c → (prim (prP 16 c) → dvz (prP 16 c) X → False) → ∀ g, dvz g X → prim g → 0 < g.1 d → dl (d + 1) g → T g → (l : Int) ≠ g.1 d := fun l c hc hf g a1 a2 a3 a4 a5 el => by
          have := hT2 g a1 a2 a3 a4 a5 l c el hc
          rw [this] at hf
          exact hf a2 a1
        refine s_isFactor (W := W) (X := X) hW dX (by rw [u2]; exact hX) hd m0 m1 (by omega) (by omega) (by rw [u1]; exact hx) hr hN (fun M2 f2 c1 c2 c3 c4 c5 => ⟨fun _ x13 e13 => ?_, fun c => absurd c (by decide)⟩) (fun M2 f2 c1 nc2 => ⟨fun c => absurd rfl c, fun _ => ⟨kne, ?_⟩⟩)
        · rw [e13, lN_1]
          rw [u1] at c1
          rw [u3] at c5
          exact fin (e + 1) (k + 1) M2 _ (yes k M2 (by omega) (fun a x y z t s => by rw [f2 a x y z t s]; exact f1 a z t s) c1 c2 c3 c4 c5)
        · rw [pk_lDiv (by omega) (by omega) (by omega)]
          rw [u1] at c1
          have f12 : ∀ a, a ≠ 109 → a ≠ 110 → a ≠ 117 → M2 a = M a := fun a x y z => by rw [f2 a x y z]; exact f1 a x y z
          have w1 : M2 116 = M 116 := f12 116 (by decide) (by decide) (by decide)
          have w2 : M2 105 = M 105 := f12 105 (by decide) (by decide) (by decide)
          have w3 : M2 103 = M 103 := f12 103 (by decide) (by decide) (by decide)
          refine s_isFactor (W := W) (X := X) hW dX (by rw [w2]; exact hX) hd m0 m1 hq0 (by omega) (by rw [w1]; exact hx) hr hN (fun M3 f3 d1 d2 d3 d4 d5 => ⟨fun c => absurd c (by decide), fun _ x18 e18 => ?_⟩) (fun M3 f3 d1 d2 => ⟨fun _ x17 e17 => ?_, fun c => absurd rfl c⟩)
          · rw [e18, lN_1]
            rw [w1] at d1
            rw [w3] at d5
            exact fin (e + 1) (k + 1) M3 _ (yes (L / k) M3 hq0 (fun a x y z t s => by rw [f3 a x y z t s]; exact f12 a z t s) d1 d2 d3 d4 d5)
          · rw [e17, lN_1]
            rw [w1] at d1
            refine ih (k + 1) M3 (by omega) (by omega) (fun a x y z => by rw [f3 a x y z]; exact f12 a x y z) (fun g a1 a2 a3 a4 a5 j hj hjl => ?_)
            by_cases ej : j = k
            · subst ej
              exact ⟨hgf j _ c1 nc2 g a1 a2 a3 a4 a5, hgf (L / j) _ d1 d2 g a1 a2 a3 a4 a5⟩
            · exact hI g a1 a2 a3 a4 a5 j (by omega) hjl
  exact ⟨1002, key 1000 1 M (by decide) (by decide) (fun _ _ _ _ => rfl) (fun _ _ _ _ _ _ j hj hjl => by
    have : j = 0 := by omega
    rw [this] at hjl
    have := Nat.eq_zero_of_zero_dvd hjl
    omega)⟩
theorem prP_cutX {f : Nat → Int64} {X : Pl} {n : Nat} (h : prP 16 f = X) (hd : dl (n + 1) X) (hn : n < 16) : prP (n + 1) f = X := by
  rw [prP_cut hn (fun i a b => ?_)]
  · exact h
  · have e : (prP 16 f).1 i = (f i).toInt := pr_lt b
    rw [h, hd i (by omega)] at e
    rw [← Int64.toInt_inj, ← e]; rfl
theorem s_splits {K : Int32 → zM → zN → Prop} {d n p e w r : Nat} {W X : Pl} {M : zM} {N : zN} (hW : wld W w) (dX : dvz X W) (hpm : p ∈ smP) (hX : prP 16 (M 105) = X) (X1 : 0 < X.1 n) (X3 : X.1 n < 100000) (X2 : dl (n + 1) X) (n8 : n < 8) (d1 : 1 ≤ d) (hdn : 2 * d ≤ n) (hsq : sqf (p : Int) X) (h4 : ∀ i, i < 16 → M 114 i = lN (tdig p d e i)) (hdv : dvp (p : Int) (tpl p d e) X) (hr : r < 7) (hN : N 99 6 = nI r)
    (yes : ∀ (M' : zM) (C : Pl), (∀ a, ¬ (103 ≤ a ∧ a ≤ 117) ∨ a = 104 ∨ a = 106 ∨ a = 107 ∨ a = 108 ∨ a = 111 ∨ a = 112 ∨ a = 113 → M' a = M a) → prim C → 0 < C.1 d → dl (d + 1) C → dvp (p : Int) (tpl p d e) C → (∀ x, ev X x = ev C x * ev (prP 16 (M' 105)) x) → (∀ i, i < 8 → (M' 103 (8 * r + i)).toInt = C.1 i) → (∀ j, ¬ (8 * r ≤ j ∧ j < 8 * r + 8) → M' 103 j = M 103 j) → K 1 M' (zpui N 99 6 (nI (r + 1))))
    (no : ∀ M' : zM, (∀ a, ¬ (109 ≤ a ∧ a ≤ 117) ∨ a = 111 ∨ a = 112 ∨ a = 113 → M' a = M a) → (∀ g, dvz g X → prim g → 0 < g.1 d → dl (d + 1) g → cg (p : Int) g (plK (g.1 d) (tpl p d e)) → False) → K 0 M' N) : w_Mo_splits (nI d) (nI n) (lN p) M N K := by
  obtain ⟨p1, p2, _⟩ := smP_c p hpm
  have hpr := smP_p p hpm
  obtain ⟨bX, _, _⟩ := wld_b hW dX
  have bX' : ∀ i, i < 16 → (M 105 i).toInt.natAbs ≤ 100000000 := fun i hi => by
    have := bX i
    rw [← hX, show (prP 16 (M 105)).1 i = (M 105 i).toInt from pr_lt hi] at this
    unfold ab at this
    omega
  obtain ⟨L, hL⟩ : ∃ L : Nat, (L : Int) = X.1 n := ⟨(X.1 n).toNat, by omega⟩
  have hLM : M 105 n = lN L := by
    have e1 : (prP 16 (M 105)).1 n = (M 105 n).toInt := pr_lt (by omega)
    rw [← Int64.toInt_inj, ← e1, hX, ← hL, pk_lT (by omega)]
  refine s_Mo_copy (by decide) (by decide) (by decide) (fun M2 f1 f2 => ?_)
  obtain ⟨t1, t2⟩ := tpl_row (p := p) (d := d) (e := e) (f := M2 116) (by omega) p1 (by omega) (fun i hi => by rw [f2 i hi]; exact h4 i hi)
  have key : ∀ u s (M1 : zM), s + u = 30 → (∀ a, ¬ (109 ≤ a ∧ a ≤ 116) ∨ a = 111 ∨ a = 112 ∨ a = 113 → M1 a = M a) → p ^ (s + 1) < 340000000 → mon (prP 16 (M1 116)) d → zrw (p ^ (s + 1)) 16 (M1 116) → dvp ((p ^ (s + 1) : Nat) : Int) (prP 16 (M1 116)) X → cg (p : Int) (prP 16 (M1 116)) (tpl p d e) → L_Mo_splits_14 K (nI d) (nI n) (lN p) N (u + 1) (lN (p ^ (s + 1))) M1 := by
    intro u
    induction u with
    | zero =>
      intro s M1 hs g1 g2 g3 g4 g5 g6
      have h31 : 2 ^ (s + 1) ≤ p ^ (s + 1) := Nat.pow_le_pow_left (by omega) (s + 1)
      have e31 : (2 : Nat) ^ (s + 1) = 2147483648 := by rw [show s + 1 = 31 by omega]
      omega
    | succ u ih =>
      intro s M1 hs g1 g2 g3 g4 g5 g6
      have e105 : M1 105 = M 105 := g1 105 (by omega)
      have e103 : M1 103 = M 103 := g1 103 (by omega)
      have m0 : 0 < p ^ (s + 1) := Nat.pow_pos (by omega)
      have hpm' : (p : Int) ∣ ((p ^ (s + 1) : Nat) : Int) := ⟨((p ^ s : Nat) : Int), by rw [Nat.pow_succ, Int.natCast_mul, Int.mul_comm]⟩
      refine ⟨fun c => ⟨vp_in_nI (N := 16) (by omega) (by decide), fun x4 e4 => ?_⟩, fun c => ?_⟩
      · rw [l17] at c
        have hm17 := (pk_lLE (a := 1700000) (b := p ^ (s + 1)) (by decide) (by omega)).mp c
        have hm := pow17 p hpm s (by omega) hm17
        rw [nI_clamp (by omega), e105, hLM] at e4
        rw [e4]
        obtain ⟨H, hH⟩ := id g5
        have hcop : cop (p : Int) (prP 16 (M1 116)) H := sqf_cop hpr hsq (dvp_cg dvp_refl (cg_dvd hpm' hH))
        refine s_spl55 (W := W) (X := X) (L := L) (r := r) (w := w) (T := fun g => cg (p : Int) g (plK (g.1 d) (tpl p d e))) hW dX (by rw [e105]; exact hX) (by omega) m0 g2 (by omega) (by omega) g4 hr hN (fun g a1 a2 a3 a4 a5 => ?_) (fun g a1 a2 a3 a4 a5 l c el hc => ?_) (fun l M' l0 w1 w2 w3 w4 w5 w6 => ?_) (fun M' w1 w2 => no M' (fun a x => by rw [w1 a (by omega) (by omega) (by omega)]; exact g1 a (by omega)) w2)
        · obtain ⟨h, hh⟩ := a1
          obtain ⟨k', m', _, k1, k2, _, _, kk⟩ := dvz_top (by omega) X2 hh
          have := top_u k1 k2 (by omega) a4
          subst this
          refine ⟨(g.1 k').toNat, by omega, ?_⟩
          have : (((g.1 k').toNat : Nat) : Int) ∣ (L : Int) := ⟨h.1 m', by rw [hL, ← kk, Int.toNat_of_nonneg (by omega)]⟩
          exact Int.natCast_dvd_natCast.mp this
        · obtain ⟨h, hh⟩ := id a1
          obtain ⟨k', m', _, k1, k2, k3, k4, kk⟩ := dvz_top (by omega) X2 hh
          have := top_u k1 k2 (by omega) a4
          subst this
          have a6 : cg (p : Int) g (plK (g.1 k') (prP 16 (M1 116))) := cg_trans a5 (cg_K (cg_symm g6))
          have hpc : ((p ^ (s + 1) : Nat) : Int) = (p : Int) ^ (s + 1) := Int.natCast_pow _ _
          have hl := lift_uniq hpr g3 a4 rfl hh hcop a6 s (by rw [← hpc]; exact hH)
          rw [← hpc] at hl
          refine cnd_eq (by omega) hc el.symm a4 (fun i hi => ?_) (fun i => ?_)
          · have := cg_co hl i
            have e1 : (plK (g.1 k') (prP 16 (M1 116))).1 i = l * (M1 116 i).toInt := by
              show g.1 k' * (prP 16 (M1 116)).1 i = _
              rw [show (prP 16 (M1 116)).1 i = (M1 116 i).toInt from pr_lt (by omega), el]
            rw [e1] at this
            exact this
          · have b1 := cst_bnd (k := 0) hW dX hh (dl_mono (by omega) a4) k3 k4 i
            rw [ab_mul] at b1
            have b2 := ab_pos k3
            have b3 := ab_nn (g.1 i)
            have b4 : 1 * ab (g.1 i) ≤ ab (h.1 m') * ab (g.1 i) := Int.mul_le_mul_of_nonneg_right b2 b3
            omega
        · obtain ⟨c1, c2, c3⟩ := cnd_pl (by omega) w2
          have hcg : cg (p : Int) (prP 16 (M' 117)) (plK l (tpl p d e)) := by
            refine cg_trans (b := plK l (prP 16 (M1 116))) (cg_of (fun i => ?_)) (cg_K g6)
            show _ ∣ (prP 16 (M' 117)).1 i - (l : Int) * (prP 16 (M1 116)).1 i
            rcases Nat.lt_trichotomy i d with q | q | q
            · rw [show (prP 16 (M1 116)).1 i = (M1 116 i).toInt from pr_lt (by omega)]
              exact Int.dvd_trans hpm' (c3 i q).1
            · rw [q, c1, g3.2]
              exact ⟨0, by omega⟩
            · rw [c2 i (by omega), g3.1 i (by omega)]
              exact ⟨0, by omega⟩
          refine yes M' (prP 16 (M' 117)) (fun a x => by rw [w1 a (by omega) (by omega) (by omega) (by omega) (by omega)]; exact g1 a (by omega)) w3 (by rw [c1]; omega) c2 ⟨plX l 0, cg_trans hcg (cg_eq (fun x => by rw [ev_K, ev_M, ev_X, Int.pow_zero, Int.mul_one, Int.mul_comm]))⟩ w4 (fun i hi => ?_) (by rw [← e103]; exact w6)
          rw [w5 i hi]
          exact (pr_lt (by omega)).symm
      · rw [l17] at c
        have hlt : p ^ (s + 1) < 1700000 := Nat.not_le.mp (fun y => c ((pk_lLE (a := 1700000) (b := p ^ (s + 1)) (by decide) (by omega)).mpr y))
        have hmul : p ^ (s + 1) * p ≤ 1699999 * 199 := Nat.mul_le_mul (by omega) (by omega)
        refine s_refine (O := X) p1 p2 hpr hpm' m0 hlt (by omega) n8 (by rw [e105]; exact prP_cutX hX X2 (by omega)) (by rw [e105]; exact bX') hsq g3 g4 g5 (fun M6 w1 w2 w3 w4 w5 x8 e8 => ?_)
        rw [e8, lN_mulp, ← Nat.pow_succ]
        refine ih (s + 1) M6 (by omega) (fun a x => by rw [w1 a (by omega) (by omega) (by omega) (by omega) (by omega)]; exact g1 a x) (by rw [Nat.pow_succ]; omega) w2 (by rw [Nat.pow_succ]; exact w3) (by rw [Nat.pow_succ]; exact w4) (cg_trans (cg_dvd hpm' w5) g6)
  have hp1 : p ^ (0 + 1) = p := by rw [Nat.zero_add, Nat.pow_one]
  have k0 := key 30 0 M2
  rw [hp1] at k0
  exact ⟨31, k0 (by decide) (fun a x => f1 a (by omega)) (by omega) (by rw [t1]; exact tpl_mon p d e) t2 (by rw [t1]; exact hdv) (by rw [t1]; exact cg_refl)⟩
