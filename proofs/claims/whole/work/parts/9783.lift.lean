/-! Lifting: lift. -/
theorem z62 : ∀ i, i < 8 → zlong (61 + 1 + i) = 8 := by decide
theorem dsum_ge {dg : Nat → Nat} {i c : Nat} (h : i < c) : dg i ≤ dsum dg c :=
  Nat.le_trans (Nat.le_add_left _ _) (dsum_le (dg := dg) (show i + 1 ≤ c by omega))
theorem s_lift148 {K : zM → Prop} {k110 : Int32 → zM → Prop} {a3 : Int64} {v5 : Int32} {N : zN} {q m i a1 : Nat} {M : zM} (hi : i < 8) (hm : m * (q + 2) ≤ 2 ^ 29) (hm0 : 0 < m) (hM : M 51 1 = lN m) (hr : zrw m 8 (M (53 + i))) (hs : zrw (q + 2) 8 (M 72))
    (k : ∀ M' : zM, (∀ a, a ≠ 53 + i → M' a = M a) → (∀ j, j < 8 → (M' (53 + i) j).toInt = (M (53 + i) j).toInt + m * (M 72 j).toInt) → k110 (nI (i + 1)) M') : ∃ n, L_Li_lift_148 K k110 a1 a3 v5 (nI i) N n (0 : Int32) M := by
  have hmm : m ≤ m * (q + 2) := Nat.le_mul_of_pos_right m (by omega)
  obtain ⟨t1, t2, t3, t4⟩ := z_lNp (P := m) hm0 (by omega)
  have key : ∀ u j (M1 : zM), j + u = 8 → (∀ a, a ≠ 53 + i → M1 a = M a) → (∀ l, j ≤ l → M1 (53 + i) l = M (53 + i) l) → (∀ l, l < j → (M1 (53 + i) l).toInt = (M (53 + i) l).toInt + m * (M 72 l).toInt) → L_Li_lift_148 K k110 a1 a3 v5 (nI i) N (u + 1) (nI j) M1 := by
    intro u
    induction u with
    | zero =>
      intro j M1 hj g1 g2 g3
      have : j = 8 := by omega
      subst this
      refine ⟨fun _ => ?_, fun e => absurd (Int32.le_refl _) e⟩
      rw [nI_1]
      exact k M1 g1 g3
    | succ u ih =>
      intro j M1 hj g1 g2 g3
      refine ⟨fun x => absurd x (nI_ge (b := 8) (by omega) (by omega)), fun _ => ?_⟩
      rw [nI_clamp (by omega), nI_clamp (by omega), show 52 + 1 + i = 53 + i by omega]
      have z1 : zlong (53 + i) = 8 := by rw [show 53 + i = 52 + 1 + i by omega]; exact z53 i hi
      have iz : vp_in (nI j) (zlong (53 + i)) := by rw [z1]; exact vp_in_nI (by omega) (by decide)
      refine ⟨vp_in_nI (N := 8) hi (by decide), iz, vp_in_nI (N := 8) (by omega) (by decide), iz, fun M21 e21 => ?_⟩
      rw [g2 j (Nat.le_refl _), g1 51 (by omega), g1 72 (by omega), hM] at e21
      rw [e21, nI_1]
      have a := hr j (by omega)
      have b := hs j (by omega)
      have m1 : 0 ≤ (m : Int) * (M 72 j).toInt := Int.mul_nonneg (by omega) b.1
      have m2 : (m : Int) * (M 72 j).toInt < m * (q + 2 : Nat) := Int.mul_lt_mul_of_pos_left b.2 (by omega)
      rw [← Int.natCast_mul] at m2
      have em : (lN m * M 72 j).toInt = m * (M 72 j).toInt := by
        rw [zx_mul (by rw [t1]; omega) (by rw [t1]; omega), t1]
      have ea : (M (53 + i) j + lN m * M 72 j).toInt = (M (53 + i) j).toInt + m * (M 72 j).toInt := by
        rw [zx_add (by rw [em]; omega) (by rw [em]; omega), em]
      refine ih (j + 1) _ (by omega) (fun a x => by rw [zput_ne x]; exact g1 a x) (fun l hl => by rw [zput_n2 (by omega)]; exact g2 l (by omega)) (fun l hl => ?_)
      by_cases e : l = j
      · subst e; rw [zput_eq, ea]
      · rw [zput_n2 e]; exact g3 l (by omega)
  exact ⟨9, key 8 0 M (by decide) (fun _ _ => rfl) (fun _ _ => rfl) (fun l hl => absurd hl (Nat.not_lt_zero _))⟩
/-- the lifted rows modulo m -/
def lft (q m c : Nat) (dg : Nat → Nat) (l : Int) (O : Pl) (P : Nat → Pl) (M : zM) : Prop := M 51 1 = lN m ∧ (∀ i, i < c → mon (Lf M i) (dg i) ∧ zrw m 8 (M (53 + i)) ∧ cg ((q + 2 : Nat) : Int) (Lf M i) (P i)) ∧ cg (m : Int) O (plM (plX l 0) (plQ (Lf M) c))
theorem cop_Qx {p : Int} {P : Nat → Pl} {c i : Nat} (hpw : pwc p P c) (hi : i < c) : ∀ {k : Nat}, k ≤ c → cop p (P i) (plQx P i k)
  | 0, _ => cop_1
  | k + 1, h => by
    show cop p (P i) (if k = i then plQx P i k else plM (plQx P i k) (P k))
    by_cases e : k = i
    · rw [if_pos e]; exact cop_Qx hpw hi (by omega)
    · rw [if_neg e]
      refine cop_M (cop_Qx hpw hi (by omega)) ?_
      rcases Nat.lt_or_ge i k with x | x
      · exact hpw i k x (by omega)
      · exact cop_symm (hpw k i (by omega) hi)
theorem irr_num {p : Int} (hp : prm p) {P : Pl} {d : Nat} (h : irr p P d) {l : Int} (hl : ¬ p ∣ l) : ¬ dvp p P (plX l 0) := fun c => by
  obtain ⟨s, y, hy⟩ := inv_ex hp hl
  refine irr_nun hp h (dvp_cg (dvp_Ml (c := plX s 0) c) ⟨plX (-y) 0, fun x => ?_⟩)
  simp only [ev_M, ev_X, Int.pow_zero, Int.mul_one]
  grind
theorem s_lift110 {K : zM → Prop} {k74 : Int32 → zM → Prop} {v5 : Int32} {N : zN} {q m c n : Nat} {dg : Nat → Nat} {l : Int} {O : Pl} {P I : Nat → Pl} {M : zM} (hp : prm ((q + 2 : Nat) : Int)) (p1 : q + 2 < 200) (hc : c < 8) (hN : N 17 1 = nI c) (hP : ∀ i, i < c → Pt M i = P i ∧ mon (P i) (dg i) ∧ 1 ≤ dg i ∧ zrw (q + 2) 8 (M (19 + i))) (hI : ∀ i, i < c → prP 8 (M (62 + i)) = I i ∧ low8 q (dg i) (M (62 + i)) ∧ eqm ((q + 2 : Nat) : Int) (P i) (plM (I i) (plM (plX l 0) (plQx P i c))) (plX 1 0)) (hn : dsum dg c = n) (hn8 : n < 8) (hpw : pwc ((q + 2 : Nat) : Int) P c) (hm : m * (q + 2) ≤ 2 ^ 29) (hmp : ((q + 2 : Nat) : Int) ∣ (m : Int)) (hm0 : 0 < m) (hM : M 51 1 = lN m) (hA : ∀ i, i < c → mon (Lf M i) (dg i) ∧ zrw m 8 (M (53 + i)) ∧ cg ((q + 2 : Nat) : Int) (Lf M i) (P i)) (he : low8 q n (M 70)) (hO : cg ((m * (q + 2) : Nat) : Int) O (plA (plM (plX l 0) (plQ (Lf M) c)) (plK m (prP 8 (M 70)))))
    (k : ∀ M' : zM, (∀ a, a ≠ 51 → a ≠ 72 → ¬ (53 ≤ a ∧ a < 61) → M' a = M a) → lft q (m * (q + 2)) c dg l O P M' → k74 (v5 + 1) M') : ∃ n, L_Li_lift_110 K k74 74 (lN (q + 2)) v5 N n (0 : Int32) M := by
  have key : ∀ u i (S : Nat → Pl) (M1 : zM), i + u = c → (∀ a, a ≠ 72 → ¬ (53 ≤ a ∧ a < 53 + i) → M1 a = M a) → (∀ j, j < i → dl (dg j) (S j) ∧ eqm ((q + 2 : Nat) : Int) (P j) (S j) (plM (prP 8 (M 70)) (I j)) ∧ Lf M1 j = plA (Lf M j) (plK m (S j)) ∧ zrw (m * (q + 2)) 8 (M1 (53 + j))) → L_Li_lift_110 K k74 74 (lN (q + 2)) v5 N (u + 1) (nI i) M1 := by
    intro u
    induction u with
    | zero =>
      intro i S M1 hi g1 g2
      have : i = c := by omega
      subst this
      refine ⟨fun _ M17 e17 => k M17 (fun a x y z => by rw [e17, zput_ne x]; exact g1 a y (by omega)) ?_, fun e => absurd (by rw [hN]; exact Int32.le_refl _) e⟩
      have eL : ∀ j, j < i → M17 (53 + j) = M1 (53 + j) := fun j hj => by rw [e17, zput_ne (by omega)]
      have eL' : ∀ j, j < i → Lf M17 j = plA (Lf M j) (plK m (S j)) := fun j hj => by
        have : Lf M17 j = Lf M1 j := by
          show prP 8 (M17 (53 + j)) = prP 8 (M1 (53 + j))
          rw [eL j hj]
        rw [this]; exact (g2 j hj).2.2.1
      refine ⟨by rw [e17, zput_eq, g1 51 (by decide) (by omega), hM, lN_mulp], fun j hj => ⟨?_, by rw [eL j hj]; exact (g2 j hj).2.2.2, ?_⟩, ?_⟩
      · rw [eL' j hj]
        obtain ⟨b1, b2⟩ := (hA j hj).1
        have b3 := (g2 j hj).1
        refine ⟨dl_A b1 (dl_K (dl_mono (by omega) b3)), ?_⟩
        show (Lf M j).1 (dg j) + m * (S j).1 (dg j) = 1
        rw [b2, b3 (dg j) (Nat.le_refl _), Int.mul_zero]; rfl
      · rw [eL' j hj]
        obtain ⟨t, ht⟩ := hmp
        refine cg_trans ⟨plK t (S j), fun x => ?_⟩ (hA j hj).2.2
        rw [ev_A, ev_K, ev_K, ht, Int.mul_assoc]
      · rw [Q_congr eL', Int.natCast_mul]
        rw [Int.natCast_mul] at hO
        exact hensel hp hmp (fun j hj => (hP j hj).2.1) hn hpw (fun j hj => (hA j hj).2.2) (prP_dn he.2) hO (fun j hj => ⟨(g2 j hj).1, (g2 j hj).2.1⟩) (fun j hj => (hI j hj).2.2)
    | succ u ih =>
      intro i S M1 hi g1 g2
      have hic : i < c := by omega
      refine ⟨fun e => ?_, fun _ => ⟨vp_in_nI (N := 8) (by omega) (by decide), vp_in_nI (N := 8) (by omega) (by decide), ?_⟩⟩
      · rw [hN] at e
        exact absurd e (nI_ge (by omega) (by omega))
      · rw [nI_clamp (by omega)]
        have e70 : M1 70 = M 70 := g1 70 (by decide) (by omega)
        have e62 : M1 (61 + 1 + i) = M (62 + i) := by rw [show 61 + 1 + i = 62 + i by omega]; exact g1 _ (by omega) (by omega)
        have e19 : M1 (18 + 1 + i) = M (19 + i) := by rw [show 18 + 1 + i = 19 + i by omega]; exact g1 _ (by omega) (by omega)
        obtain ⟨a1, a2, a3, a4⟩ := hP i hic
        obtain ⟨b1, b2, b3⟩ := hI i hic
        have hdi := dsum_ge (dg := dg) hic
        have a1' : prP 8 (M (19 + i)) = P i := a1
        refine s_productInto (n := dg i) (by decide) (z62 i (by omega)) (z19 i (by omega)) (by decide) (by decide) (by omega) (by omega) a3 (by omega) (by omega) (by omega) (by rw [e70]; exact he.1) (by rw [e62]; exact b2.1) (by rw [e19]; exact a4) (by rw [e19, a1']; exact a2) (fun M4 w1 w2 w3 w4 => ?_)
        rw [e19, e70, e62, a1', cut_self (by omega) b2.2, b1] at w4
        have e53 : M4 (53 + i) = M (53 + i) := by rw [w1 _ (by omega)]; exact g1 _ (by omega) (by omega)
        obtain ⟨c1, c2, c3⟩ := hA i hic
        refine s_lift148 (by omega) hm hm0 (by rw [w1 51 (by decide), g1 51 (by decide) (by omega)]; exact hM) (by rw [e53]; exact c2) w2 (fun M5 w5 w6 => ?_)
        rw [e53] at w6
        have eLi : Lf M5 i = plA (Lf M i) (plK m (prP 8 (M4 72))) := pl_ext (fun t => by
          show pr 8 (M5 (53 + i)) t = pr 8 (M (53 + i)) t + m * pr 8 (M4 72) t
          rcases Nat.lt_or_ge t 8 with x | x
          · rw [pr_lt x, pr_lt x, pr_lt x, w6 t x]
          · rw [pr_ge x, pr_ge x, pr_ge x, Int.mul_zero]; rfl)
        refine ih (i + 1) (fun j => if j = i then prP 8 (M4 72) else S j) M5 (by omega) (fun a x y => by rw [w5 a (by omega), w1 a x]; exact g1 a x (by omega)) (fun j hj => ?_)
        by_cases e : j = i
        · subst e
          show dl (dg j) (if j = j then _ else _) ∧ eqm _ _ (if j = j then _ else _) _ ∧ _ = plA _ (plK _ (if j = j then _ else _)) ∧ _
          rw [if_pos rfl]
          refine ⟨prP_dn w3, w4, eLi, fun t ht => ?_⟩
          rw [w6 t ht]
          have x := c2 t ht
          have y := w2 t ht
          have y1 : 0 ≤ (m : Int) * (M4 72 t).toInt := Int.mul_nonneg (by omega) y.1
          have y2 : (m : Int) * (M4 72 t).toInt ≤ m * ((q + 2 : Nat) - 1) := Int.mul_le_mul_of_nonneg_left (by omega) (by omega)
          have y3 : (m : Int) * ((q + 2 : Nat) - 1) = ((m * (q + 2) : Nat) : Int) - m := by rw [Int.natCast_mul, Int.mul_sub, Int.mul_one]
          omega
        · show dl (dg j) (if j = i then _ else _) ∧ eqm _ _ (if j = i then _ else _) _ ∧ _ = plA _ (plK _ (if j = i then _ else _)) ∧ _
          rw [if_neg e]
          obtain ⟨d1, d2, d3, d4⟩ := g2 j (by omega)
          have ej : M5 (53 + j) = M1 (53 + j) := by rw [w5 _ (by omega), w1 _ (by omega)]
          refine ⟨d1, d2, ?_, by rw [ej]; exact d4⟩
          rw [← d3]
          show prP 8 (M5 (53 + j)) = prP 8 (M1 (53 + j))
          rw [ej]
  exact ⟨c + 1, key c 0 (fun _ => plX 0 0) M (by omega) (fun _ _ _ => rfl) (fun j hj => absurd hj (Nat.not_lt_zero _))⟩
