/-! The class's matrix. -/
theorem s_timesX {K : zM → Prop} {a0 a1 n P : Nat} {M : zM} (h0 : zlong a0 = 8) (h1 : zlong a1 = 8) (n01 : a0 ≠ a1) (hn : 1 ≤ n) (hn8 : n < 8) (p0 : 0 < P) (p1 : P < 2 ^ 31) (ha : zrw P 8 (M a0)) (hb : zrw P 8 (M a1))
    (k : ∀ M' : zM, (∀ a, a ≠ a0 → M' a = M a) → (∀ i, 1 ≤ i → i < n → (M' a0 i).toInt = ((M a0 (i - 1)).toInt - (M a0 (n - 1)).toInt * (M a1 i).toInt) % P) → (M' a0 0).toInt = (-((M a0 (n - 1)).toInt * (M a1 0).toInt)) % P → (∀ i, n ≤ i → M' a0 i = M a0 i) → K M') : w_Re_timesX a0 a1 (nI n) (lN P) M K := by
  obtain ⟨q1, q2, q3, q4⟩ := z_lNp p0 p1
  refine ⟨fun c => absurd c (nI_nlt (b := 1) (by omega) (by omega)), fun _ => ⟨fun _ => ?_, fun c => absurd (nI_lt (b := 8) (by omega) (by decide)) c⟩⟩
  have em : nI n - 1 = nI (n - 1) := by
    rw [show n = (n - 1) + 1 by omega, nI_pred, show n - 1 + 1 - 1 = n - 1 by omega]
  rw [em]
  refine ⟨by rw [h0]; exact vp_in_nI (by omega) (by decide), fun x1 e1 x2 e2 => ?_⟩
  rw [nI_clamp (by omega)] at e1
  have hx := ha (n - 1) (by omega)
  rw [← e1] at hx
  have mul : ∀ i, i < 8 → (x1 * M a1 i).toInt = x1.toInt * (M a1 i).toInt ∧ 0 ≤ x1.toInt * (M a1 i).toInt ∧ x1.toInt * (M a1 i).toInt ≤ 4611686014132420609 := fun i hi => z_mulp p1 hx.1 hx.2 (hb i hi).1 (hb i hi).2
  have key : ∀ j (M1 : zM), j < n → (∀ a, a ≠ a0 → M1 a = M a) → (∀ i, j < i → i < n → (M1 a0 i).toInt = ((M a0 (i - 1)).toInt - x1.toInt * (M a1 i).toInt) % P) → (∀ i, i ≤ j → M1 a0 i = M a0 i) → (∀ i, n ≤ i → M1 a0 i = M a0 i) → ∃ f, L_Re_timesX_24 K a0 a1 (lN P) x1 f (nI j) M1 := by
    intro j
    induction j with
    | zero =>
      intro M1 _ f1 f2 f3 f4
      refine ⟨1, ⟨fun _ => ⟨by rw [h1]; exact vp_in_nI (n := 0) (by decide) (by decide), ?_⟩, fun c => absurd (by decide) c⟩⟩
      have ec : (0 : Int32).toNatClampNeg = 0 := by decide
      rw [ec, f1 a1 (fun e => n01 e.symm)]
      refine s_residue q3 ⟨by rw [h0]; exact vp_in_nI (n := 0) (by decide) (by decide), fun M6 e6 => ?_⟩
      obtain ⟨m1, m2, m3⟩ := mul 0 (by decide)
      have en : (-x1).toInt = -x1.toInt := zx_neg (by omega)
      have em2 : (-x1 * M a1 0).toInt = -(x1.toInt * (M a1 0).toInt) := by
        rw [zx_mul (by rw [en, Int.neg_mul]; omega) (by rw [en, Int.neg_mul]; omega), en, Int.neg_mul]
      rw [e6]
      refine k _ (fun a x => by rw [zput_ne x]; exact f1 a x) (fun i a b => ?_) ?_ (fun i hi => by rw [zput_n2 (by omega)]; exact f4 i hi)
      · rw [zput_n2 (by omega), ← e1]; exact f2 i a b
      · rw [zput_eq, zrs_e q2 (by rw [em2]; omega), em2, q1, e1]
    | succ j ih =>
      intro M1 hj f1 f2 f3 f4
      obtain ⟨m1, m2, m3⟩ := mul (j + 1) (by omega)
      have hxj := ha j (by omega)
      have es : (M a0 j - x1 * M a1 (j + 1)).toInt = (M a0 j).toInt - x1.toInt * (M a1 (j + 1)).toInt := by
        rw [zx_sub (by rw [m1]; omega) (by rw [m1]; omega), m1]
      obtain ⟨f, hf⟩ := ih (zput M1 a0 (j + 1) (zrs (M a0 j - x1 * M a1 (j + 1)) (lN P))) (by omega) (fun a x => by rw [zput_ne x]; exact f1 a x) (fun i a b => by
        by_cases c : i = j + 1
        · subst c
          rw [zput_eq, zrs_e q2 (by rw [es]; omega), es, q1, show j + 1 - 1 = j by omega]
        · rw [zput_n2 c]; exact f2 i (by omega) b) (fun i hi => by rw [zput_n2 (by omega)]; exact f3 i (by omega)) (fun i hi => by rw [zput_n2 (by omega)]; exact f4 i hi)
      have e3 : nI (j + 1) - 1 = nI j := nI_pred j
      refine ⟨f + 1, ⟨fun c => absurd c (nI_nle (by omega) (by omega)), fun _ => ?_⟩⟩
      rw [e3, nI_clamp (by omega), nI_clamp (by omega), pk_m1, f3 j (by omega), f1 a1 (fun e => n01 e.symm)]
      refine ⟨by rw [h0]; exact vp_in_nI (by omega) (by decide), by rw [h1]; exact vp_in_nI (by omega) (by decide), s_residue q3 ⟨by rw [h0]; exact vp_in_nI (by omega) (by decide), fun M10 e10 => ?_⟩⟩
      rw [e10]
      exact hf
  rw [e2]
  exact key (n - 1) M (by omega) (fun _ _ => rfl) (fun i a b => by omega) (fun _ _ => rfl) (fun _ _ => rfl)
/-- the row becomes x times itself, less a multiple of the monic row -/
theorem timesX_dvp {P : Nat} {f g b : Nat → Int64} {n : Nat} (hn : 1 ≤ n) (hn8 : n < 8) (hb : mon (prP 8 b) n) (h1 : ∀ i, 1 ≤ i → i < n → (g i).toInt = ((f (i - 1)).toInt - (f (n - 1)).toInt * (b i).toInt) % P) (h2 : (g 0).toInt = (-((f (n - 1)).toInt * (b 0).toInt)) % P) (h3 : ∀ i, n ≤ i → g i = f i) (hz : ∀ i, n ≤ i → i < 8 → f i = 0) : dvp (P : Int) (prP 8 b) (plS (prP 8 g) (plU (prP 8 f))) := by
  refine ⟨plX (-(f (n - 1)).toInt) 0, cg_of (fun i => ?_)⟩
  show (P : Int) ∣ pr 8 g i - (if i = 0 then 0 else pr 8 f (i - 1)) - pmul (pr 8 b) (pone (-(f (n - 1)).toInt) 0) i
  rw [pmul_comm, pmul_one, if_pos (Nat.zero_le _), Nat.sub_zero]
  have hbn : (b n).toInt = 1 := by
    have := hb.2
    have e : (prP 8 b).1 n = (b n).toInt := pr_lt hn8
    rw [e] at this; exact this
  have hbz : ∀ i, n < i → pr 8 b i = 0 := fun i hi => hb.1 i hi
  rcases Nat.lt_or_ge i 8 with c | c
  · rw [pr_lt c]
    rcases Nat.lt_trichotomy i n with q | q | q
    · rw [pr_lt c]
      by_cases i0 : i = 0
      · rw [if_pos i0, i0, h2]
        obtain ⟨y, hy⟩ := mod_dvd (-((f (n - 1)).toInt * (b 0).toInt)) (P : Int)
        exact ⟨y, by grind⟩
      · rw [if_neg i0, pr_lt (by omega), h1 i (by omega) q]
        obtain ⟨y, hy⟩ := mod_dvd ((f (i - 1)).toInt - (f (n - 1)).toInt * (b i).toInt) (P : Int)
        exact ⟨y, by grind⟩
    · subst q
      rw [if_neg (by omega), pr_lt (by omega), pr_lt c, hbn, h3 i (Nat.le_refl _), hz i (Nat.le_refl _) c]
      show (P : Int) ∣ (0 : Int) - _ - _
      exact ⟨0, by rw [Int.mul_zero]; omega⟩
    · rw [if_neg (by omega), pr_lt (by omega), hbz i q, h3 i (by omega), hz i (by omega) c, hz (i - 1) (by omega) (by omega)]
      show (P : Int) ∣ (0 : Int) - (0 : Int) - _
      exact ⟨0, by rw [Int.mul_zero, Int.mul_zero]; rfl⟩
  · rw [pr_ge c, pr_ge (f := b) c, if_neg (by omega), Int.mul_zero]
    have : pr 8 f (i - 1) = 0 := by
      rcases Nat.lt_or_ge (i - 1) 8 with d | d
      · rw [pr_lt d, hz (i - 1) (by omega) d]; rfl
      · exact pr_ge d
    rw [this]
    exact ⟨0, by rw [Int.mul_zero]; rfl⟩
theorem s_fillM67 {K : zM → Prop} {k18 : Int32 → zM → Prop} {n i P : Nat} {M : zM} (hn : 1 ≤ n) (hn8 : n < 8) (p0 : 0 < P) (p1 : P < 2 ^ 31) (hb : zrw P 8 (M 47)) (hm : mon (prP 8 (M 47)) n) (e0 : Nat) (ha : zrw P 8 (M 46)) (hz : ∀ i, n ≤ i → i < 8 → M 46 i = 0) (hd : dvp (P : Int) (prP 8 (M 47)) (plS (prP 8 (M 46)) (plX 1 e0)))
    (k : ∀ M' : zM, (∀ a, a ≠ 46 → M' a = M a) → zrw P 8 (M' 46) → (∀ i, n ≤ i → i < 8 → M' 46 i = 0) → dvp (P : Int) (prP 8 (M 47)) (plS (prP 8 (M' 46)) (plX 1 (e0 + P))) → k18 (nI (i + 1)) M') : ∃ f, L_MP_fillMatrix_67 K k18 (nI n) (lN P) (nI i) f (0 : Int32) M := by
  have key : ∀ d j (M1 : zM), j + d = P → (∀ a, a ≠ 46 → M1 a = M a) → zrw P 8 (M1 46) → (∀ i, n ≤ i → i < 8 → M1 46 i = 0) → dvp (P : Int) (prP 8 (M 47)) (plS (prP 8 (M1 46)) (plX 1 (e0 + j))) → L_MP_fillMatrix_67 K k18 (nI n) (lN P) (nI i) (d + 1) (nI j) M1 := by
    intro d
    induction d with
    | zero =>
      intro j M1 hj f1 f2 f3 f4
      have : j = P := by omega
      subst this
      refine ⟨fun _ => by rw [nI_1]; exact k M1 f1 f2 f3 f4, fun c => absurd ?_ c⟩
      rw [nI_l (by omega)]
      exact Int64.le_refl _
    | succ d ih =>
      intro j M1 hj f1 f2 f3 f4
      have e47 : M1 47 = M 47 := f1 47 (by decide)
      refine ⟨fun c => ?_, fun _ => ?_⟩
      · rw [nI_l (by omega), pk_lLE (by omega) (by omega)] at c
        omega
      · refine s_timesX (by decide) (by decide) (by decide) hn hn8 p0 p1 f2 (by rw [e47]; exact hb) (fun M2 g1 g2 g3 g4 => ?_)
        rw [e47] at g2 g3
        rw [nI_1]
        refine ih (j + 1) M2 (by omega) (fun a x => by rw [g1 a x]; exact f1 a x) (fun l hl => ?_) (fun l a b => by rw [g4 l a]; exact f3 l a b) ?_
        · by_cases c0 : l = 0
          · rw [c0, g3]; exact z_emod p0 _
          · by_cases c : l < n
            · rw [g2 l (by omega) c]; exact z_emod p0 _
            · rw [g4 l (by omega)]; exact f2 l hl
        · have a1 := timesX_dvp hn hn8 hm g2 g3 g4 f3
          have a2 : dvp (P : Int) (prP 8 (M 47)) (plM (plX 1 1) (plS (prP 8 (M1 46)) (plX 1 (e0 + j)))) := dvp_Ml f4
          refine dvp_cg (dvp_A a1 a2) (cg_eq (fun x => ?_))
          simp only [ev_S, ev_A, ev_M, ev_U, ev_X]
          rw [show e0 + (j + 1) = (e0 + j) + 1 by omega, Int.pow_succ x (e0 + j)]
          have : x ^ 1 = x := by rw [Int.pow_succ, Int.pow_zero, Int.one_mul]
          rw [this]
          grind
  exact ⟨P + 1, key P 0 M (by omega) (fun _ _ => rfl) ha hz hd⟩
theorem s_fillMatrix {K : zM → Prop} {n P : Nat} {M : zM} (hn : 1 ≤ n) (hn8 : n < 8) (p0 : 1 < P) (p1 : P < 2 ^ 31) (hb : zrw P 8 (M 47)) (hm : mon (prP 8 (M 47)) n)
    (k : ∀ M' : zM, (∀ a, a ≠ 46 → ¬ (28 ≤ a ∧ a < 36) → M' a = M a) → (∀ i, i < n → zrw P 8 (M' (28 + i)) ∧ dl n (prP 8 (M' (28 + i))) ∧ dvp (P : Int) (prP 8 (M 47)) (plS (prP 8 (M' (28 + i))) (plS (plX 1 (P * i)) (plX 1 i)))) → K M') : w_MP_fillMatrix (nI n) (lN P) M K := by
  obtain ⟨q1, q2, q3, q4⟩ := z_lNp (P := P) (by omega) p1
  have zr8 : ∀ i, i < 8 → zlong (27 + 1 + i) = 8 := by decide
  refine s_Ar_fillJ (n := 8) (by decide) (by decide) (by decide) (fun M2 f1 f2 => ⟨vp_in_nI (n := 0) (N := 8) (by decide) (by decide), fun M4 e4 => ?_⟩)
  have ec : (0 : Int32).toNatClampNeg = 0 := by decide
  rw [ec] at e4
  have key : ∀ d i (M1 : zM), i + d = n → (∀ a, a ≠ 46 → ¬ (28 ≤ a ∧ a < 36) → M1 a = M a) → zrw P 8 (M1 46) → (∀ l, n ≤ l → l < 8 → M1 46 l = 0) → dvp (P : Int) (prP 8 (M 47)) (plS (prP 8 (M1 46)) (plX 1 (P * i))) → (∀ l, l < i → zrw P 8 (M1 (28 + l)) ∧ dl n (prP 8 (M1 (28 + l))) ∧ dvp (P : Int) (prP 8 (M 47)) (plS (prP 8 (M1 (28 + l))) (plS (plX 1 (P * l)) (plX 1 l)))) → L_MP_fillMatrix_18 K (nI n) (lN P) (d + 1) (nI i) M1 := by
    intro d
    induction d with
    | zero =>
      intro i M1 hi g1 g2 g3 g4 g5
      have : i = n := by omega
      subst this
      exact ⟨fun _ => k M1 g1 g5, fun c => absurd (Int32.le_refl _) c⟩
    | succ d ih =>
      intro i M1 hi g1 g2 g3 g4 g5
      have hgn : vp_in (nI i) (zgn 27) := vp_in_nI (N := 8) (by omega) (by decide)
      refine ⟨fun c => absurd c (nI_ge (by omega) (by omega)), fun _ => ⟨hgn, ?_⟩⟩
      rw [nI_clamp (by omega)]
      refine s_copyInto (by decide) (zr8 i (by omega)) (fun M6 g6 g7 => ⟨hgn, hgn, by rw [zr8 i (by omega)]; exact vp_in_nI (by omega) (by decide), s_residue q3 ⟨by rw [zr8 i (by omega)]; exact vp_in_nI (by omega) (by decide), fun M11 e11 => ?_⟩⟩)
      have v46 : M6 46 = M1 46 := g6 46 (by omega)
      have hx := g2 i (by omega)
      have es : (M6 (27 + 1 + i) i - 1).toInt = (M1 46 i).toInt - 1 := by
        rw [g7 i (by omega), zx_sub (by show _ ≤ _ - (1 : Int); omega) (by show _ - (1 : Int) < _; omega)]
        rfl
      have er : (zrs (M6 (27 + 1 + i) i - 1) (lN P)).toInt = ((M1 46 i).toInt - 1) % P := by
        rw [zrs_e q2 (by rw [es]; omega), es, q1]
      have hne46 : (46 : Nat) ≠ 27 + 1 + i := by omega
      have w46 : M11 46 = M1 46 := by rw [e11, zput_ne hne46, v46]
      have w47 : M11 47 = M 47 := by rw [e11, zput_ne (by omega), g6 47 (by omega), g1 47 (by decide) (by decide)]
      have row : ∀ l, l < 8 → (M11 (28 + i) l).toInt = if l = i then ((M1 46 i).toInt - 1) % P else (M1 46 l).toInt := fun l hl => by
        rw [show 28 + i = 27 + 1 + i by omega, e11]
        by_cases c : l = i
        · subst c; rw [zput_eq, if_pos rfl, er]
        · rw [zput_n2 c, if_neg c, g7 l hl]
      refine s_fillM67 (e0 := P * i) hn hn8 (by omega) p1 (by rw [w47]; exact hb) (by rw [w47]; exact hm) (by rw [w46]; exact g2) (by rw [w46]; exact g3) (by rw [w46, w47]; exact g4) (fun M' g8 g9 g10 g11 => ?_)
      rw [w47, show P * i + P = P * (i + 1) by rw [Nat.mul_succ]] at g11
      refine ih (i + 1) M' (by omega) (fun a x y => ?_) g9 g10 g11 (fun l hl => ?_)
      · rw [g8 a x, e11, zput_ne (by omega), g6 a (by omega)]
        exact g1 a x y
      · by_cases c : l = i
        · subst c
          rw [g8 (28 + l) (by omega)]
          have zr' : zrw P 8 (M11 (28 + l)) := fun t ht => by
            rw [row t ht]
            split
            · exact z_emod (by omega) _
            · exact g2 t ht
          refine ⟨zr', fun t ht => ?_, ?_⟩
          · show pr 8 (M11 (28 + l)) t = 0
            rcases Nat.lt_or_ge t 8 with c8 | c8
            · rw [pr_lt c8, row t c8, if_neg (by omega), g3 t ht c8]; rfl
            · exact pr_ge c8
          · have a1 : cg (P : Int) (prP 8 (M11 (28 + l))) (plS (prP 8 (M1 46)) (plX 1 l)) := cg_of (fun t => by
              show (P : Int) ∣ pr 8 (M11 (28 + l)) t - (pr 8 (M1 46) t - (if t = l then 1 else 0))
              rcases Nat.lt_or_ge t 8 with c8 | c8
              · rw [pr_lt c8, pr_lt c8, row t c8]
                by_cases c2 : t = l
                · rw [if_pos c2, if_pos c2, c2]; exact mod_dvd _ _
                · rw [if_neg c2, if_neg c2]; exact ⟨0, by rw [Int.mul_zero]; omega⟩
              · rw [pr_ge c8, pr_ge c8, if_neg (by omega)]; exact ⟨0, by rw [Int.mul_zero]; rfl⟩)
            refine dvp_cg g4 (cg_trans (cg_S a1 cg_refl) (cg_eq (fun x => by simp only [ev_S]; omega)))
        · have h3 : M' (28 + l) = M1 (28 + l) := by
            rw [g8 (28 + l) (by omega), e11, zput_ne (by omega), g6 (28 + l) (by omega)]
          rw [h3]
          exact g5 l (by omega)
  refine ⟨n + 1, key n 0 M4 (by omega) (fun a x _ => by rw [e4, zput_ne x, f1 a x]) (fun i hi => ?_) (fun l a b => ?_) ?_ (fun l hl => absurd hl (Nat.not_lt_zero _))⟩
  · rw [e4]
    by_cases c : i = 0
    · subst c; rw [zput_eq]; exact ⟨by decide, by show (1 : Int) < _; omega⟩
    · rw [zput_n2 c, f2 i hi]; exact ⟨by decide, by show (0 : Int) < _; omega⟩
  · rw [e4, zput_n2 (by omega), f2 l b]
  · refine dvp_0 (fun i => ?_)
    show (P : Int) ∣ pr 8 (M4 46) i - (if i = P * 0 then 1 else 0)
    rw [Nat.mul_zero]
    refine ⟨0, ?_⟩
    rw [Int.mul_zero, e4]
    rcases Nat.lt_or_ge i 8 with c | c
    · rw [pr_lt c]
      by_cases c0 : i = 0
      · subst c0; rw [zput_eq, if_pos rfl]; rfl
      · rw [zput_n2 c0, if_neg c0, f2 i c]; rfl
    · rw [pr_ge c, if_neg (by omega)]; rfl
