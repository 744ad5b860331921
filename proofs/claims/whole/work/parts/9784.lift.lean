/-! Lifting: lift as a whole. -/
theorem l17 : (1700000 : Int64) = lN 1700000 := rfl
theorem Qx_congr {A B : Nat → Pl} {i : Nat} : ∀ {c : Nat}, (∀ j, j < c → A j = B j) → plQx A i c = plQx B i c
  | 0, _ => rfl
  | c + 1, h => by
    have ih := Qx_congr (A := A) (B := B) (i := i) (c := c) (fun j hj => h j (by omega))
    show (if c = i then plQx A i c else plM (plQx A i c) (A c)) = (if c = i then plQx B i c else plM (plQx B i c) (B c))
    rw [ih, h c (by omega)]
theorem s_lift {K : zM → Prop} {N : zN} {q c n : Nat} {dg : Nat → Nat} {l : Int} {M : zM} (hp : prm ((q + 2 : Nat) : Int)) (p1 : q + 2 < 200) (hc : c < 8) (hN : N 17 1 = nI c) (hirr : ∀ i, i < c → irr ((q + 2 : Nat) : Int) (Pt M i) (dg i) ∧ zrw (q + 2) 8 (M (19 + i))) (hn : dsum dg c = n) (hn8 : n < 8) (hpw : pwc ((q + 2 : Nat) : Int) (Pt M) c) (hO : ∀ i, i < 8 → (M 74 i).toInt.natAbs ≤ 100000000) (hl0 : 0 < l) (hl1 : l < 100000) (hlp : ¬ ((q + 2 : Nat) : Int) ∣ l) (hOd : dl (n + 1) (prP 8 (M 74))) (hOl : (prP 8 (M 74)).1 n = l) (hOm : cg ((q + 2 : Nat) : Int) (prP 8 (M 74)) (plM (plX l 0) (plQ (Pt M) c)))
    (k : ∀ (m s : Nat) (M' : zM), (∀ a, ¬ (51 ≤ a ∧ a ≤ 72) → M' a = M a) → 1700000 ≤ m → m < 340000000 → m = (q + 2) ^ (s + 1) → lft q m c dg l (prP 8 (M 74)) (Pt M) M' → K M') : w_Li_lift 74 (lN (q + 2)) M N K := by
  have hdg : ∀ i, i < c → dg i < 8 := fun i hi => by
    have := dsum_ge (dg := dg) hi
    omega
  have eOl : (M 74 n).toInt = l := by rw [← hOl]; exact (pr_lt hn8).symm
  -- the steps
  have steps : ∀ u s (I : Nat → Pl) (M1 : zM), s + u = 30 → (∀ a, ¬ (51 ≤ a ∧ a ≤ 72) → M1 a = M a) → (∀ i, i < c → prP 8 (M1 (62 + i)) = I i ∧ low8 q (dg i) (M1 (62 + i)) ∧ eqm ((q + 2 : Nat) : Int) (Pt M i) (plM (I i) (plM (plX l 0) (plQx (Pt M) i c))) (plX 1 0)) → (q + 2) ^ (s + 1) < 340000000 → lft q ((q + 2) ^ (s + 1)) c dg l (prP 8 (M 74)) (Pt M) M1 → L_Li_lift_74 K 74 (lN (q + 2)) N (u + 1) (nI s) M1 := by
    intro u
    induction u with
    | zero =>
      intro s I M1 hs g1 g2 g3 g4
      have h31 : 2 ^ (s + 1) ≤ (q + 2) ^ (s + 1) := Nat.pow_le_pow_left (by omega) (s + 1)
      have e31 : (2 : Nat) ^ (s + 1) = 2147483648 := by
        rw [show s + 1 = 31 by omega]
      omega
    | succ u ih =>
      intro s I M1 hs g1 g2 g3 g4
      refine ⟨fun x => absurd x (nI_ge (b := 30) (by omega) (by omega)), fun _ => ⟨fun x => ?_, fun x => ?_⟩⟩
      · rw [g4.1, l17] at x
        have := (pk_lLE (a := 1700000) (b := (q + 2) ^ (s + 1)) (by decide) (by omega)).mp x
        exact k _ s M1 g1 this g3 rfl g4
      · rw [g4.1, l17] at x
        have hlt : (q + 2) ^ (s + 1) < 1700000 := Nat.not_le.mp (fun y => x ((pk_lLE (a := 1700000) (b := (q + 2) ^ (s + 1)) (by decide) (by omega)).mpr y))
        rw [g4.1, lN_mulp, hN]
        have hm0 : 0 < (q + 2) ^ (s + 1) := Nat.pow_pos (by omega)
        have hmul : (q + 2) ^ (s + 1) * (q + 2) ≤ 1699999 * 199 := Nat.mul_le_mul (by omega) (by omega)
        have e74 : M1 74 = M 74 := g1 74 (by omega)
        refine s_findError (q := q) (m := (q + 2) ^ (s + 1)) (n := n) (dg := dg) (l := l) (by decide) (by decide) (by omega) hm0 (by omega) g4.1 hn hn8 (fun i hi => (g4.2.1 i hi).1) (fun i hi => (g4.2.1 i hi).2.1) (by rw [e74]; exact hO) hl0 hl1 (by rw [e74]; exact ⟨fun d => by obtain ⟨y, hy⟩ := d; rw [hOl, Int.zero_mul] at hy; omega, fun i hi => ⟨0, by rw [hOd i (by omega)]; rfl⟩⟩) (by rw [e74]; exact hOl) (by rw [e74]; exact g4.2.2) (fun M15 w1 w2 w3 => ?_)
        rw [e74] at w3
        have eL : ∀ i, M15 (53 + i) = M1 (53 + i) ∨ i = 17 := fun i => by
          by_cases e : i = 17
          · exact Or.inr e
          · exact Or.inl (w1 _ (by omega))
        have eLf : ∀ i, i < c → Lf M15 i = Lf M1 i := fun i hi => by
          show prP 8 (M15 (53 + i)) = prP 8 (M1 (53 + i))
          rw [w1 _ (by omega)]
        have ePt : ∀ i, i < c → Pt M15 i = Pt M i := fun i hi => by
          show prP 8 (M15 (19 + i)) = prP 8 (M (19 + i))
          rw [w1 _ (by omega), g1 _ (by omega)]
        refine s_lift110 (P := Pt M) (I := I) (l := l) (O := prP 8 (M 74)) (m := (q + 2) ^ (s + 1)) (dg := dg) (n := n) hp p1 hc hN (fun i hi => ⟨ePt i hi, (hirr i hi).1.1, (hirr i hi).1.2.1, by rw [w1 _ (by omega), g1 _ (by omega)]; exact (hirr i hi).2⟩) (fun i hi => by rw [w1 (62 + i) (by omega)]; exact g2 i hi) hn hn8 hpw (by omega) ⟨(((q + 2) ^ s : Nat) : Int), by rw [Nat.pow_succ, Int.natCast_mul, Int.mul_comm]⟩ hm0 (by rw [w1 51 (by decide)]; exact g4.1) (fun i hi => by rw [eLf i hi, w1 (53 + i) (by omega)]; exact g4.2.1 i hi) w2 (by rw [Q_congr eLf]; exact w3) (fun M16 v1 v2 => ?_)
        rw [nI_1]
        refine ih (s + 1) I M16 (by omega) (fun a x => by rw [v1 a (by omega) (by omega) (by omega), w1 a (by omega)]; exact g1 a x) (fun i hi => ?_) (by rw [Nat.pow_succ]; omega) (by rw [Nat.pow_succ]; exact v2)
        rw [v1 (62 + i) (by omega) (by omega) (by omega), w1 (62 + i) (by omega)]
        exact g2 i hi
  have e0 : nI 0 = (0 : Int32) := rfl
  have hp1 : (q + 2) ^ (0 + 1) = q + 2 := by rw [Nat.zero_add, Nat.pow_one]
  have step0 := steps 30 0
  rw [hp1] at step0
  have hp2 : q + 2 < 340000000 := Nat.lt_trans p1 (by decide)
  -- the beginning
  have key : ∀ u i (I : Nat → Pl) (M1 : zM), i + u = c → (∀ a, ¬ (51 ≤ a ∧ a ≤ 72) → M1 a = M a) → (∀ j, j < i → (∀ t, t < 8 → M1 (53 + j) t = M (19 + j) t) ∧ prP 8 (M1 (62 + j)) = I j ∧ low8 q (dg j) (M1 (62 + j)) ∧ eqm ((q + 2 : Nat) : Int) (Pt M j) (plM (I j) (plM (plX l 0) (plQx (Pt M) j c))) (plX 1 0)) → L_Li_lift_3 K 74 (lN (q + 2)) N (u + 1) (nI i) M1 := by
    intro u
    induction u with
    | zero =>
      intro i I M1 hi g1 g2
      have : i = c := by omega
      subst this
      refine ⟨fun _ M2 e2 => ⟨30 + 1, e0 ▸ step0 I M2 rfl (fun a x => by rw [e2, zput_ne (by omega)]; exact g1 a x) (fun j hj => by rw [e2, zput_ne (by omega)]; exact (g2 j hj).2) hp2 ?_⟩, fun e => absurd (by rw [hN]; exact Int32.le_refl _) e⟩
      have eL : ∀ j, j < i → Lf M2 j = Pt M j := fun j hj => by
        show prP 8 (M2 (53 + j)) = prP 8 (M (19 + j))
        rw [e2, zput_ne (by omega)]
        exact prP_congr (g2 j hj).1
      refine ⟨by rw [e2, zput_eq], fun j hj => ⟨by rw [eL j hj]; exact (hirr j hj).1.1, fun t ht => ?_, by rw [eL j hj]; exact cg_refl⟩, by rw [Q_congr eL]; exact hOm⟩
      rw [e2, zput_ne (by omega), (g2 j hj).1 t ht]
      exact (hirr j hj).2 t ht
    | succ u ih =>
      intro i I M1 hi g1 g2
      have hic : i < c := by omega
      refine ⟨fun e => ?_, fun _ => ⟨vp_in_nI (N := 8) (by omega) (by decide), vp_in_nI (N := 8) (by omega) (by decide), ?_⟩⟩
      · rw [hN] at e
        exact absurd e (nI_ge (by omega) (by omega))
      · rw [nI_clamp (by omega)]
        refine s_copyInto (z19 i (by omega)) (z53 i (by omega)) (fun M3 v1 v2 => ?_)
        rw [show 18 + 1 + i = 19 + i by omega, show 52 + 1 + i = 53 + i by omega] at v2
        rw [show 52 + 1 + i = 53 + i by omega] at v1
        rw [g1 (19 + i) (by omega)] at v2
        have e74 : M3 74 = M 74 := by rw [v1 74 (by omega)]; exact g1 74 (by omega)
        have e19 : ∀ j, j < 8 → M3 (19 + j) = M (19 + j) := fun j hj => by rw [v1 _ (by omega)]; exact g1 _ (by omega)
        have ePt : ∀ j, j < 8 → Pt M3 j = Pt M j := fun j hj => by
          show prP 8 (M3 (19 + j)) = prP 8 (M (19 + j))
          rw [e19 j hj]
        have eQx : plQx (Pt M3) i c = plQx (Pt M) i c := Qx_congr (fun j hj => ePt j (by omega))
        obtain ⟨hir, hrw⟩ := hirr i hic
        refine s_leadingOf (by decide) (d := n) (by rw [e74]; exact row_zdg hn8 (by rw [hOl]; omega) hOd) ?_
        rw [e74]
        refine s_multiplyOthers (d := dg i) (f := plX 0 0) hp (by omega) hc hic hN (fun j hj => by rw [e19 j (by omega)]; exact (hirr j hj).2) hir.2.1 (hdg i hic) (by rw [ePt i (by omega)]; exact hir.1) (by rw [eOl]; omega) (fun M9 y1 y2 y3 => ⟨vp_in_nI (N := 8) (by omega) (by decide), vp_in_nI (N := 8) (by omega) (by decide), ?_⟩)
        rw [eOl, ePt i (by omega), eQx] at y3
        have e9 : M9 (18 + 1 + i) = M (19 + i) := by rw [show 18 + 1 + i = 19 + i by omega, y1 _ (by omega) (by omega)]; exact e19 i (by omega)
        have hPt : prP 8 (M (19 + i)) = Pt M i := rfl
        refine s_fillInverse (d := dg i) (z19 i (by omega)) (z62 i (by omega)) (by omega) (by omega) (by omega) hp p1 hir.2.1 (hdg i hic) (by rw [e9]; exact hir.1) (by rw [e9]; exact hrw) y2 (fun M12 u1 u2 u3 => ?_)
        rw [e9, hPt, show 61 + 1 + i = 62 + i by omega] at u3
        rw [show 61 + 1 + i = 62 + i by omega] at u1 u2
        rw [nI_1]
        -- 71 is not 0 modulo the part
        have hnd : ¬ dvp ((q + 2 : Nat) : Int) (Pt M i) (prP 8 (M9 71)) := fun cdv => by
          have h1 := eqm_dvp (eqm_symm y3) cdv
          rcases irr_prime hp hir h1 with x | x
          · exact irr_num hp hir hlp x
          · exact irr_nun hp hir (cop_dvp1 (cop_Qx hpw hic (Nat.le_refl _)) dvp_refl x)
        have hff := ffermat hp hir hnd
        have hinv : eqm ((q + 2 : Nat) : Int) (Pt M i) (plM (prP 8 (M12 (62 + i))) (plM (plX l 0) (plQx (Pt M) i c))) (plX 1 0) := by
          refine eqm_trans (eqm_M u3 (eqm_symm y3)) (eqm_trans (eqm_eq (fun x => ?_)) hff)
          have h2 : 2 ≤ (q + 2) ^ dg i := by
            have : (q + 2) ^ 1 ≤ (q + 2) ^ dg i := Nat.pow_le_pow_right (by omega) hir.2.1
            rw [Nat.pow_one] at this
            omega
          rw [ev_M, ev_P, ev_P, ← Int.pow_succ, show ((q + 2) ^ dg i - 2).succ = (q + 2) ^ dg i - 1 by omega]
        refine ih (i + 1) (fun j => if j = i then prP 8 (M12 (62 + i)) else I j) M12 (by omega) (fun a x => by rw [u1 a (by omega) (by omega) (by omega), y1 a (by omega) (by omega), v1 a (by omega)]; exact g1 a x) (fun j hj => ?_)
        by_cases e : j = i
        · subst e
          refine ⟨fun t ht => by rw [u1 _ (by omega) (by omega) (by omega), y1 _ (by omega) (by omega)]; exact v2 t ht, (if_pos rfl).symm, u2, ?_⟩
          show eqm _ _ (plM (if j = j then _ else _) _) _
          rw [if_pos rfl]
          exact hinv
        · obtain ⟨d1, d2, d3, d4⟩ := g2 j (by omega)
          have ej : M12 (62 + j) = M1 (62 + j) := by rw [u1 _ (by omega) (by omega) (by omega), y1 _ (by omega) (by omega), v1 _ (by omega)]
          refine ⟨fun t ht => by rw [u1 _ (by omega) (by omega) (by omega), y1 _ (by omega) (by omega), v1 _ (by omega)]; exact d1 t ht, by rw [ej, d2]; exact (if_neg e).symm, by rw [ej]; exact d3, ?_⟩
          show eqm _ _ (plM (if j = i then _ else _) _) _
          rw [if_neg e]
          exact d4
  exact ⟨c + 1, key c 0 (fun _ => plX 0 0) M (by omega) (fun _ _ => rfl) (fun j hj => absurd hj (Nat.not_lt_zero _))⟩
