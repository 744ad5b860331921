/-! splitOff. -/
theorem eq_near {x y : Int} {m : Nat} (h : (m : Int) ∣ x - y) (hx : 2 * ab x ≤ m) (hy : 2 * ab y < m) : x = y := by
  obtain ⟨t, ht⟩ := h
  unfold ab at hx hy
  have h1 : (x - y).natAbs < m := by omega
  rw [ht, Int.natAbs_mul, Int.natAbs_natCast] at h1
  rcases Nat.eq_zero_or_pos t.natAbs with c | c
  · have t0 : t = 0 := by omega
    rw [t0, Int.mul_zero] at ht
    omega
  · have := Nat.le_mul_of_pos_right m c
    omega
/-- the candidate that the set S makes: Y -/
def cndS (m : Nat) (l : Int) (B Y : Pl) (d : Nat) : Prop := cg (m : Int) Y (plK l B) ∧ (∀ i, 2 * ab (Y.1 i) ≤ m) ∧ dl (d + 1) Y ∧ Y.1 d = l
theorem s_splitOff {K : Int32 → zM → Prop} {S c m w n' d : Nat} {dg : Nat → Nat} {l' : Int} {W : Pl} {M : zM} {N : zN} (hW : wld W w) (hS : S < 128) (hc : c < 8) (hN : N 17 1 = nI c) (hm1 : 1700000 ≤ m) (hm2 : m < 340000000) (hM : M 51 1 = lN m) (hA : ∀ i, i < c → mon (Lf M i) (dg i) ∧ zrw m 8 (M (53 + i))) (hn : dsum dg c < 8) (dO : dvz (prP 8 (M 74)) W) (hl0 : 0 < l') (hl1 : l' < 100000) (hn' : n' < 8) (hO1 : (prP 8 (M 74)).1 n' = l') (hO2 : dl (n' + 1) (prP 8 (M 74))) (hd : dB (bS S) dg c = d)
    (yes : ∀ (M' : zM) (Y : Pl) (r : Int), (∀ a, a ≠ 74 → a ≠ 76 → a ≠ 77 → a ≠ 78 → M' a = M a) → cndS m l' (plB (bS S) (Lf M) c) Y d → prim (prP 8 (M' 76)) → 0 < (prP 8 (M' 76)).1 d → dl (d + 1) (prP 8 (M' 76)) → (∀ i, Y.1 i = r * (prP 8 (M' 76)).1 i) → (∀ x, ev (prP 8 (M 74)) x = ev (prP 8 (M' 76)) x * ev (prP 8 (M' 74)) x) → K 1 M')
    (no : ∀ M' : zM, (∀ a, a ≠ 76 → a ≠ 77 → a ≠ 78 → M' a = M a) → (∀ (g : Pl) (e : Int), dvz g (prP 8 (M 74)) → prim g → 0 < g.1 d → dl (d + 1) g → l' = e * g.1 d → cg (m : Int) g (plK (g.1 d) (plB (bS S) (Lf M) c)) → (∀ i, 2 * ab (e * g.1 i) < m) → False) → K 0 M') : w_Sp_splitOff (nI S) M N K := by
  obtain ⟨q1, q2, q3, q4⟩ := z_lNp (P := m) (by omega) (by omega)
  have d8 : d < 8 := by have := dB_le (b := bS S) (dg := dg) (c := c); omega
  refine s_Ar_fillJ (n := 8) (by decide) (by decide) (by decide) (fun M2 f1 f2 => s_leadingOf (by decide) (d := n') (by rw [f1 74 (by decide)]; exact row_zdg hn' (by rw [hO1]; omega) hO2) ⟨vp_in_nI (n := 0) (N := 8) (by decide) (by decide), fun M7 e7 => ?_⟩)
  have ec : (0 : Int32).toNatClampNeg = 0 := by decide
  rw [ec, f1 74 (by decide)] at e7
  have hOl' : (M 74 n').toInt = l' := by rw [← hO1]; exact (pr_lt hn').symm
  -- after nearest
  have thd : ∀ (M1 : zM), (∀ a, a ≠ 76 → M1 a = M a) → cndS m l' (plB (bS S) (Lf M) c) (prP 8 (M1 76)) d → w_Ro_makePrimitive 76 M1 (fun r11 M12 => w_Ro_findQuotient 74 76 77 78 M12 (fun r14 M15 => (¬ r14 = 0 → w_Ro_copyInto 77 74 M15 (fun M18 => narrow .boolean (.int (1 : Int32)) = .int (1 : Int32) ∧ K (1 : Int32) M18)) ∧ (r14 = 0 → narrow .boolean (.int (0 : Int32)) = .int (0 : Int32) ∧ K (0 : Int32) M15))) := by
    intro M1 g1 g2
    obtain ⟨y1, y2, y3, y4⟩ := id g2
    have val : ∀ i, i < 8 → (prP 8 (M1 76)).1 i = (M1 76 i).toInt := fun i hi => pr_lt hi
    refine s_makePrimitive (d := d) (by decide) (fun i hi => ?_) (row_zdg d8 (by rw [y4]; omega) y3) (fun r M12 w1 w2 w3 w4 w5 => ?_)
    · have := y2 i
      rw [val i hi] at this
      unfold ab at this
      unfold zab
      omega
    have val2 : ∀ i, i < 8 → (prP 8 (M12 76)).1 i = (M12 76 i).toInt := fun i hi => pr_lt hi
    have hYC : ∀ i, (prP 8 (M1 76)).1 i = r.toInt * (prP 8 (M12 76)).1 i := fun i => by
      rcases Nat.lt_or_ge i 8 with x | x
      · rw [val i x, val2 i x]; exact w3 i x
      · rw [show (prP 8 (M1 76)).1 i = 0 from pr_ge x, show (prP 8 (M12 76)).1 i = 0 from pr_ge x, Int.mul_zero]
    have hr0 : r.toInt ≠ 0 := fun x => by
      have := hYC d
      rw [x, Int.zero_mul, y4] at this
      omega
    have C1 : 0 < (prP 8 (M12 76)).1 d := by rw [val2 d d8]; exact w4
    have C2 : dl (d + 1) (prP 8 (M12 76)) := fun i hi => by
      have := hYC i
      rw [y3 i hi] at this
      rcases Int.mul_eq_zero.mp this.symm with x | x
      · exact absurd x hr0
      · exact x
    have e74 : M12 74 = M 74 := by rw [w1 74 (by decide)]; exact g1 74 (by decide)
    -- a divisor of that kind is the candidate
    have hg : ∀ (g : Pl) (e : Int), dvz g (prP 8 (M 74)) → prim g → 0 < g.1 d → dl (d + 1) g → l' = e * g.1 d → cg (m : Int) g (plK (g.1 d) (plB (bS S) (Lf M) c)) → (∀ i, 2 * ab (e * g.1 i) < m) → prP 8 (M12 76) = g := fun g e a1 a2 a3 a4 a5 a6 a7 => by
      refine pl_ext (prim_uniq (r := r.toInt) (s := e) w5 a2 hr0 C1 C2 a3 a4 (fun i => ?_))
      rw [← hYC i]
      refine eq_near (m := m) ?_ (y2 i) (a7 i)
      have b1 := cg_co y1 i
      have b2 := cg_co a6 i
      have b3 : (plK l' (plB (bS S) (Lf M) c)).1 i = e * (plK (g.1 d) (plB (bS S) (Lf M) c)).1 i := by
        show l' * _ = e * (g.1 d * _)
        rw [a5, Int.mul_assoc]
      rw [b3] at b1
      have b4 := Int.dvd_sub b1 (Int.dvd_mul_of_dvd_right (b := e) b2)
      rw [show (prP 8 (M1 76)).1 i - e * (plK (g.1 d) (plB (bS S) (Lf M) c)).1 i - e * (g.1 i - (plK (g.1 d) (plB (bS S) (Lf M) c)).1 i) = (prP 8 (M1 76)).1 i - e * g.1 i by rw [Int.mul_sub]; omega] at b4
      exact b4
    obtain ⟨bO, _, _⟩ := wld_b hW dO
    have hzd : zdg (M12 76) 8 ≠ 0 := by rw [row_zdg d8 (by omega) C2]; omega
    refine s_findQuotient (by decide) (by decide) (by decide) (by decide) (by decide) (by decide) (by decide) (by decide) (fun i hi => ?_) (fun bad => ⟨fun x => absurd rfl x, fun _ => ⟨rfl, no M12 (fun a x _ _ => by rw [w1 a x]; exact g1 a x) (fun g e a1 a2 a3 a4 a5 a6 a7 => ?_)⟩⟩) (fun _ _ M15 v1 v2 => ⟨fun _ => s_copyInto (by decide) (by decide) (fun M18 u1 u2 => ⟨rfl, ?_⟩), fun x => absurd x (by decide)⟩) (fun _ _ M15 v1 v2 => ⟨fun x => absurd rfl x, fun _ => ⟨rfl, no M15 (fun a x y z => by rw [v1 a y z, w1 a x]; exact g1 a x) (fun g e a1 a2 a3 a4 a5 a6 a7 => ?_)⟩⟩)
    · rw [e74]
      have := bO i
      rw [show (prP 8 (M 74)).1 i = (M 74 i).toInt from pr_lt hi] at this
      unfold ab at this
      omega
    · have eg := hg g e a1 a2 a3 a4 a5 a6 a7
      obtain ⟨bg, _, _⟩ := wld_b hW (dvz_trans a1 dO)
      rcases bad with x | x
      · exact hzd x
      · refine x (fun i hi => ?_)
        have := bg i
        rw [← eg, val2 i hi] at this
        unfold ab at this
        omega
    · have e76 : M18 76 = M12 76 := by rw [u1 76 (by decide), v1 76 (by decide) (by decide)]
      have ev1 := fun x => z_pdiv_ev v2 x
      rw [e74] at ev1
      refine yes M18 (prP 8 (M1 76)) r.toInt (fun a x y z t => by rw [u1 a x, v1 a z t, w1 a y]; exact g1 a y) g2 (by rw [e76]; exact w5) (by rw [e76]; exact C1) (by rw [e76]; exact C2) (by rw [e76]; exact hYC) (fun x => ?_)
      rw [prP_congr u2, e76]
      exact ev1 x
    · have eg := hg g e a1 a2 a3 a4 a5 a6 a7
      obtain ⟨h, hh⟩ := a1
      obtain ⟨bh, dh8, _⟩ := wld_b hW (dvz_trans (dvz_r hh) dO)
      refine v2 ⟨h.1, gok_pdiv (A := prP 8 (M 74)) (G := g) (fun i => by rw [e74]; rfl) (fun i => ?_) hh bh dh8⟩
      exact congrArg (fun t : Pl => t.1 i) eg
  -- nearest
  have snd : ∀ (X : zM), (∀ a, a ≠ 76 → X a = M a) → (∀ i, i < 8 → 0 ≤ (X 76 i).toInt ∧ (X 76 i).toInt < 536870912) → dl (d + 1) (prP 8 (X 76)) → cg (m : Int) (prP 8 (X 76)) (plK l' (plB (bS S) (Lf M) c)) → ∃ f, L_Sp_splitOff_74 K N f (0 : Int32) X := by
    intro X x1 x2 x3 x4
    have hB := B_mon (b := bS S) (A := Lf M) (dg := dg) (c := c) (fun i hi => (hA i hi).1)
    rw [hd] at hB
    have key : ∀ u j (M1 : zM), j + u = 8 → (∀ a, a ≠ 76 → M1 a = M a) → (∀ i, j ≤ i → M1 76 i = X 76 i) → (∀ i, i < j → (m : Int) ∣ (M1 76 i).toInt - (X 76 i).toInt ∧ 2 * ab (M1 76 i).toInt ≤ m) → L_Sp_splitOff_74 K N (u + 1) (nI j) M1 := by
      intro u
      induction u with
      | zero =>
        intro j M1 hj g1 g2 g3
        have : j = 8 := by omega
        subst this
        refine ⟨fun _ => thd M1 g1 ?_, fun e => absurd (Int32.le_refl _) e⟩
        have val : ∀ i, i < 8 → (prP 8 (M1 76)).1 i = (M1 76 i).toInt := fun i hi => pr_lt hi
        have hb : ∀ i, 2 * ab ((prP 8 (M1 76)).1 i) ≤ m := fun i => by
          rcases Nat.lt_or_ge i 8 with x | x
          · rw [val i x]; exact (g3 i x).2
          · rw [show (prP 8 (M1 76)).1 i = 0 from pr_ge x]
            show 2 * ab 0 ≤ (m : Int)
            unfold ab; omega
        have hcg : cg (m : Int) (prP 8 (M1 76)) (plK l' (plB (bS S) (Lf M) c)) := cg_trans (cg_of (fun i => by
          rcases Nat.lt_or_ge i 8 with x | x
          · rw [val i x, show (prP 8 (X 76)).1 i = (X 76 i).toInt from pr_lt x]; exact (g3 i x).1
          · rw [show (prP 8 (M1 76)).1 i = 0 from pr_ge x, show (prP 8 (X 76)).1 i = 0 from pr_ge x]
            exact ⟨0, by rw [Int.mul_zero]; rfl⟩)) x4
        refine ⟨hcg, hb, fun i hi => ?_, ?_⟩
        · refine eq_near (m := m) ?_ (hb i) (by show 2 * ab 0 < (m : Int); unfold ab; omega)
          have := cg_co hcg i
          have e0 : (plK l' (plB (bS S) (Lf M) c)).1 i = 0 := by
            show l' * _ = 0
            rw [hB.1 i hi, Int.mul_zero]
          rw [e0] at this
          exact this
        · refine eq_near (m := m) ?_ (hb d) (by unfold ab; omega)
          have := cg_co hcg d
          have e0 : (plK l' (plB (bS S) (Lf M) c)).1 d = l' := by
            show l' * _ = l'
            rw [hB.2, Int.mul_one]
          rw [e0] at this
          exact this
      | succ u ih =>
        intro j M1 hj g1 g2 g3
        have ij : vp_in (nI j) (zlong 76) := vp_in_nI (N := 8) (by omega) (by decide)
        refine ⟨fun x => absurd x (nI_ge (b := 8) (by omega) (by omega)), fun _ => ⟨ij, ?_⟩⟩
        rw [nI_clamp (by omega), g1 51 (by decide), hM, g2 j (Nat.le_refl _)]
        have hXj := x2 j (by omega)
        refine s_nearest (by omega) (by omega) (by omega) (fun y y1 y2 => ⟨ij, fun M23 e23 => ?_⟩)
        rw [e23, nI_1]
        refine ih (j + 1) _ (by omega) (fun a x => by rw [zput_ne x]; exact g1 a x) (fun i hi => by rw [zput_n2 (by omega)]; exact g2 i (by omega)) (fun i hi => ?_)
        by_cases e : i = j
        · rw [e, zput_eq]; exact ⟨y1, y2⟩
        · rw [zput_n2 e]; exact g3 i (by omega)
    exact ⟨9, key 8 0 X (by decide) x1 (fun _ _ => rfl) (fun i hi => absurd hi (Nat.not_lt_zero _))⟩
  -- the products
  have fst : ∀ u j (M1 : zM), j + u = c → (∀ a, a ≠ 76 → M1 a = M a) → (∀ i, i < 8 → 0 ≤ (M1 76 i).toInt ∧ (M1 76 i).toInt < 536870912) → dl (dB (bS S) dg j + 1) (prP 8 (M1 76)) → cg (m : Int) (prP 8 (M1 76)) (plK l' (plB (bS S) (Lf M) j)) → L_Sp_splitOff_23 K (nI S) N (u + 1) (nI j) M1 := by
    intro u
    induction u with
    | zero =>
      intro j M1 hj g1 g2 g3 g4
      have : j = c := by omega
      subst this
      rw [hd] at g3
      exact ⟨fun _ => snd M1 g1 g2 g3 g4, fun e => absurd (by rw [hN]; exact Int32.le_refl _) e⟩
    | succ u ih =>
      intro j M1 hj g1 g2 g3 g4
      refine ⟨fun e => ?_, fun _ => ⟨fun e => ?_, fun e => ⟨vp_in_nI (N := 8) (by omega) (by decide), ?_⟩⟩⟩
      · rw [hN] at e
        exact absurd e (nI_ge (by omega) (by omega))
      · have hb : ¬ bS S j = true := fun x => e ((bit_i (by omega) (by omega)).mpr (bS_t.mp x))
        rw [nI_1]
        refine ih (j + 1) M1 (by omega) g1 g2 (by rw [dB_f hb]; exact g3) (by rw [B_f hb]; exact g4)
      · have hb : bS S j = true := bS_t.mpr ((bit_i (by omega) (by omega)).mp e)
        rw [nI_clamp (by omega), g1 51 (by decide), hM]
        have ej : M1 (52 + 1 + j) = M (53 + j) := by rw [show 52 + 1 + j = 53 + j by omega]; exact g1 _ (by omega)
        have hj1 := dB_mono (b := bS S) (dg := dg) (show j + 1 ≤ c by omega)
        have hj2 : dB (bS S) dg (j + 1) = dB (bS S) dg j + dg j := dB_t hb
        obtain ⟨hmj, hrj⟩ := hA j (by omega)
        refine s_multiplyBy (h := dg j) (by decide) (z53 j (by omega)) (by omega) (by rw [ej]; exact mon_zdg (by omega) hmj) (by omega) (by omega) g2 (fun i hi => by rw [ej]; have := hrj i hi; omega) (fun M9 w1 w2 => ?_)
        rw [ej] at w2
        have dm : dl (dB (bS S) dg (j + 1) + 1) (plM (Lf M j) (prP 8 (M1 76))) := dl_M hmj.1 g3 (by omega)
        rw [nI_1]
        refine ih (j + 1) M9 (by omega) (fun a x => by rw [w1 a x]; exact g1 a x) (fun i hi => ?_) (prP_dn (fun i a b => ?_)) ?_
        · rw [w2 i hi]
          have := z_emod (P := m) (by omega) (pmul (pr 8 (M (53 + j))) (pr 8 (M1 76)) i)
          omega
        · have : pmul (pr 8 (M (53 + j))) (pr 8 (M1 76)) i = 0 := dm i a
          rw [← Int64.toInt_inj, w2 i b, this, Int.zero_emod]; rfl
        · have c1 : cg (m : Int) (prP 8 (M9 76)) (plM (Lf M j) (prP 8 (M1 76))) := cg_of (fun i => by
            show _ ∣ pr 8 (M9 76) i - pmul (pr 8 (M (53 + j))) (pr 8 (M1 76)) i
            rcases Nat.lt_or_ge i 8 with x | x
            · rw [pr_lt x, w2 i x]; exact mod_dvd _ _
            · have : pmul (pr 8 (M (53 + j))) (pr 8 (M1 76)) i = 0 := dm i (by omega)
              rw [pr_ge x, this]
              exact ⟨0, by rw [Int.mul_zero]; rfl⟩)
          rw [B_t hb]
          refine cg_trans c1 (cg_trans (cg_M cg_refl g4) (cg_eq (fun x => ?_)))
          simp only [ev_M, ev_K]
          generalize ev (Lf M j) x = A
          generalize ev (plB (bS S) (Lf M) j) x = C
          grind
  have va : ∀ i, i < 8 → (M7 76 i).toInt = if i = 0 then l' else 0 := fun i hi => by
    rw [e7]
    by_cases e : i = 0
    · subst e; rw [zput_eq, if_pos rfl, hOl']
    · rw [zput_n2 e, if_neg e, f2 i hi]; rfl
  have eone : prP 8 (M7 76) = plX l' 0 := pl_ext (fun i => by
    show pr 8 (M7 76) i = if i = 0 then l' else 0
    rcases Nat.lt_or_ge i 8 with x | x
    · rw [pr_lt x, va i x]
    · rw [pr_ge x, if_neg (by omega)])
  refine ⟨c + 1, fst c 0 M7 (by omega) (fun a x => by rw [e7, zput_ne x, f1 a x]) (fun i hi => ?_) ?_ ?_⟩
  · rw [va i hi]
    split <;> omega
  · rw [eone]; exact dl_X (Nat.succ_pos _)
  · rw [eone]
    refine cg_eq (fun x => ?_)
    show _ = ev (plK l' (plX 1 0)) x
    simp only [ev_K, ev_X, Int.pow_zero, Int.mul_one]
