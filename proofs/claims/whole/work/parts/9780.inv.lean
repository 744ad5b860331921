/-! Lifting: the other parts' product and its inverse. -/
theorem cut_self {f : Nat → Int64} {n : Nat} (hn : n ≤ 8) (h : ∀ i, n ≤ i → i < 8 → f i = 0) : cut (pr 8 f) 0 n = prP 8 f := pl_ext (fun i => by
  show (if i < n then pr 8 f (0 + i) else 0) = pr 8 f i
  by_cases c : i < n
  · rw [if_pos c, Nat.zero_add]
  · rw [if_neg c]
    rcases Nat.lt_or_ge i 8 with d | d
    · rw [pr_lt d, h i (by omega) d]; rfl
    · exact (pr_ge d).symm)
/-- a row modulo the part: residues, of lesser degree -/
def low8 (q d : Nat) (f : Nat → Int64) : Prop := zrw (q + 2) 8 f ∧ ∀ i, d ≤ i → i < 8 → f i = 0
/-- modulo p and the part P -/
def eqm (p : Int) (P a b : Pl) : Prop := dvp p P (plS a b)
theorem eqm_refl {p : Int} {P a : Pl} : eqm p P a a := dvp_0 (fun i => by
  show p ∣ a.1 i - a.1 i
  exact ⟨0, by rw [Int.mul_zero, Int.sub_self]⟩)
theorem eqm_trans {p : Int} {P a b c : Pl} (h : eqm p P a b) (g : eqm p P b c) : eqm p P a c := dvp_cg (dvp_A h g) (cg_eq (fun x => by simp only [ev_S, ev_A]; omega))
theorem eqm_symm {p : Int} {P a b : Pl} (h : eqm p P a b) : eqm p P b a := dvp_cg (dvp_Ml (c := plX (-1) 0) h) (cg_eq (fun x => by simp only [ev_S, ev_M, ev_X, Int.pow_zero]; omega))
theorem eqm_M {p : Int} {P a b c d : Pl} (h : eqm p P a b) (g : eqm p P c d) : eqm p P (plM a c) (plM b d) := dvp_cg (dvp_A (dvp_Mr (c := c) h) (dvp_Ml (c := b) g)) (cg_eq (fun x => by simp only [ev_S, ev_A, ev_M]; rw [Int.sub_mul, Int.mul_sub]; omega))
theorem eqm_eq {p : Int} {P a b : Pl} (h : ∀ x, ev a x = ev b x) : eqm p P a b := by
  rw [ev_ext h]
  exact eqm_refl
theorem eqm_cg {p : Int} {P a b : Pl} (h : cg p a b) : eqm p P a b := dvp_0 (zr_S h)
theorem eqm_dvp {p : Int} {P a b : Pl} (h : eqm p P a b) (g : dvp p P b) : dvp p P a := dvp_cg (dvp_A h g) (cg_eq (fun x => by simp only [ev_S, ev_A]; omega))
theorem s_multiplyOthers {K : zM → Prop} {q c i d : Nat} {lead : Int64} {f : Pl} {M : zM} {N : zN} (hp : prm ((q + 2 : Nat) : Int)) (p1 : q + 2 < 1000) (hc : c < 8) (hi : i < c) (hN : N 17 1 = nI c) (hr : ∀ j, j < c → zrw (q + 2) 8 (M (19 + j))) (hd1 : 1 ≤ d) (hd : d < 8) (hm : mon (Pt M i) d) (hl : lead.toInt.natAbs < 2 ^ 62)
    (k : ∀ M' : zM, (∀ a, a ≠ 71 → a ≠ 72 → M' a = M a) → low8 q d (M' 71) → eqm ((q + 2 : Nat) : Int) (Pt M i) (prP 8 (M' 71)) (plM (plX lead.toInt 0) (plQx (Pt M) i c)) → K M') : w_Li_multiplyOthers (nI i) lead (lN (q + 2)) M N K := by
  obtain ⟨q1, q2, q3, q4⟩ := z_lNp (P := q + 2) (by omega) (by omega)
  refine s_Ar_fillJ (n := 8) (by decide) (by decide) (by decide) (fun M2 f1 f2 => s_residue q3 ⟨vp_in_nI (n := 0) (N := 8) (by decide) (by decide), fun M7 e7 => ?_⟩)
  have ec : (0 : Int32).toNatClampNeg = 0 := by decide
  rw [ec] at e7
  have v0 : (M7 71 0).toInt = lead.toInt % (q + 2 : Nat) := by rw [e7, zput_eq, zrs_e q2 hl, q1]
  have v1 : ∀ l, l ≠ 0 → l < 8 → M7 71 l = 0 := fun l a b => by rw [e7, zput_n2 a, f2 l b]
  have key : ∀ u j (M1 : zM), j + u = c → (∀ a, a ≠ 71 → a ≠ 72 → M1 a = M a) → low8 q d (M1 71) → eqm ((q + 2 : Nat) : Int) (Pt M i) (prP 8 (M1 71)) (plM (plX lead.toInt 0) (plQx (Pt M) i j)) → L_Li_multiplyOthers_23 K (nI i) (lN (q + 2)) N (u + 1) (nI j) M1 := by
    intro u
    induction u with
    | zero =>
      intro j M1 hj g1 g2 g3
      have : j = c := by omega
      subst this
      exact ⟨fun _ => k M1 g1 g2 g3, fun e => absurd (by rw [hN]; exact Int32.le_refl _) e⟩
    | succ u ih =>
      intro j M1 hj g1 g2 g3
      refine ⟨fun e => ?_, fun _ => ⟨fun e => ?_, fun e => ?_⟩⟩
      · rw [hN] at e
        exact absurd e (nI_ge (by omega) (by omega))
      · have eji : j = i := (nI_eq (by omega) (by omega)).mp e
        rw [nI_1]
        refine ih (j + 1) M1 (by omega) g1 g2 ?_
        have : plQx (Pt M) i (j + 1) = plQx (Pt M) i j := if_pos eji
        rw [this]
        exact g3
      · have eji : j ≠ i := fun x => e (by rw [x])
        have gj : vp_in (nI j) (zgn 18) := vp_in_nI (N := 8) (by omega) (by decide)
        have gi : vp_in (nI i) (zgn 18) := vp_in_nI (N := 8) (by omega) (by decide)
        rw [nI_clamp (by omega), nI_clamp (by omega)]
        have ej : M1 (18 + 1 + j) = M (19 + j) := by rw [show 18 + 1 + j = 19 + j by omega]; exact g1 _ (by omega) (by omega)
        have ei : M1 (18 + 1 + i) = M (19 + i) := by rw [show 18 + 1 + i = 19 + i by omega]; exact g1 _ (by omega) (by omega)
        refine ⟨gj, gi, s_productInto (z19 j (by omega)) (by decide) (z19 i (by omega)) (by decide) (by omega) (by decide) (by omega) hd1 hd (by omega) (by omega) (by rw [ej]; exact hr j (by omega)) g2.1 (by rw [ei]; exact hr i hi) (by rw [ei]; exact hm) (fun M9 w1 w2 w3 w4 => s_copyInto (by decide) (by decide) (fun M12 w5 w6 => ?_))⟩
        rw [ei, ej, cut_self (by omega) g2.2] at w4
        rw [nI_1]
        have e71 : prP 8 (M12 71) = prP 8 (M9 72) := prP_congr w6
        refine ih (j + 1) M12 (by omega) (fun a x y => by rw [w5 a x, w1 a y]; exact g1 a x y) ⟨fun l hl => by rw [w6 l hl]; exact w2 l hl, fun l a b => by rw [w6 l b]; exact w3 l a b⟩ ?_
        have : plQx (Pt M) i (j + 1) = plM (plQx (Pt M) i j) (Pt M j) := if_neg eji
        rw [this, e71]
        refine eqm_trans w4 (eqm_trans (eqm_M eqm_refl g3) (eqm_eq (fun x => ?_)))
        show ev (plM (Pt M j) (plM (plX lead.toInt 0) (plQx (Pt M) i j))) x = _
        simp only [ev_M]
        generalize ev (Pt M j) x = A
        generalize ev (plX lead.toInt 0) x = B
        generalize ev (plQx (Pt M) i j) x = C
        grind
  refine ⟨c + 1, key c 0 M7 (by omega) (fun a x _ => by rw [e7, zput_ne x, f1 a x]) ⟨fun l hl => ?_, fun l a b => v1 l (by omega) b⟩ (eqm_cg (cg_of (fun l => ?_)))⟩
  · by_cases e : l = 0
    · rw [e, v0]; exact z_emod (by omega) _
    · rw [v1 l e hl]; exact ⟨by decide, by show (0 : Int) < _; omega⟩
  · show _ ∣ pr 8 (M7 71) l - pmul (pone lead.toInt 0) (pone 1 0) l
    rw [pmul_one, if_pos (Nat.zero_le _), Nat.sub_zero]
    show _ ∣ pr 8 (M7 71) l - lead.toInt * (if l = 0 then 1 else 0)
    by_cases e : l = 0
    · rw [if_pos e, e, pr_lt (by decide), v0, Int.mul_one]; exact mod_dvd _ _
    · rw [if_neg e, Int.mul_zero, Int.sub_zero]
      have : pr 8 (M7 71) l = 0 := by
        rcases Nat.lt_or_ge l 8 with c8 | c8
        · rw [pr_lt c8, v1 l e c8]; rfl
        · exact pr_ge c8
      rw [this]; exact ⟨0, (Int.mul_zero _).symm⟩
/-- powers by squaring -/
theorem eqm_P {p : Int} {P a b : Pl} (h : eqm p P a b) : ∀ n, eqm p P (plP a n) (plP b n)
  | 0 => eqm_refl
  | n + 1 => eqm_M (eqm_P h n) h
theorem eqm_even {p : Int} {P w v v' c : Pl} {e f : Nat} (h : eqm p P v' (plM v v)) (he : e = 2 * f) (g : eqm p P (plM w (plP v e)) c) : eqm p P (plM w (plP v' f)) c := by
  refine eqm_trans (eqm_trans (eqm_M eqm_refl (eqm_P h f)) (eqm_eq (fun x => ?_))) g
  rw [ev_M, ev_M, ev_P, ev_P, ev_M, he, Int.pow_mul, show ev v x ^ 2 = ev v x * ev v x by rw [Int.pow_succ, Int.pow_succ, Int.pow_zero, Int.one_mul]]
theorem eqm_odd {p : Int} {P w w' v v' c : Pl} {e f : Nat} (h : eqm p P v' (plM v v)) (h' : eqm p P w' (plM v w)) (he : e = 2 * f + 1) (g : eqm p P (plM w (plP v e)) c) : eqm p P (plM w' (plP v' f)) c := by
  refine eqm_even h (e := 2 * f) rfl (eqm_trans (eqm_trans (eqm_M h' eqm_refl) (eqm_eq (fun x => ?_))) g)
  rw [ev_M, ev_M, ev_M, ev_P, ev_P, he, Int.pow_succ]
  generalize ev v x ^ (2 * f) = A
  generalize ev v x = B
  generalize ev w x = C
  grind
theorem s_fillInverse {K : zM → Prop} {q a1 a2 d : Nat} {M : zM} (z1 : zlong a1 = 8) (z2 : zlong a2 = 8) (n12 : a1 ≠ a2) (r1 : a1 ≠ 71 ∧ a1 ≠ 72) (r2 : a2 ≠ 71 ∧ a2 ≠ 72) (hp : prm ((q + 2 : Nat) : Int)) (p1 : q + 2 < 200) (hd1 : 1 ≤ d) (hd : d < 8) (hm : mon (prP 8 (M a1)) d) (rr : zrw (q + 2) 8 (M a1)) (hl : low8 q d (M 71))
    (k : ∀ M' : zM, (∀ a, a ≠ 71 → a ≠ 72 → a ≠ a2 → M' a = M a) → low8 q d (M' a2) → eqm ((q + 2 : Nat) : Int) (prP 8 (M a1)) (prP 8 (M' a2)) (plP (prP 8 (M 71)) ((q + 2) ^ d - 2)) → K M') : w_Li_fillInverse a1 a2 (lN (q + 2)) M K := by
  have hpd : (q + 2) ^ d ≤ 200 ^ 7 := Nat.le_trans (Nat.pow_le_pow_left (by omega) d) (Nat.pow_le_pow_right (by decide) (by omega))
  have h2007 : (200 : Nat) ^ 7 = 12800000000000000 := by decide
  have hp2 : 2 ≤ (q + 2) ^ d := by
    have : (q + 2) ^ 1 ≤ (q + 2) ^ d := Nat.pow_le_pow_right (by omega) hd1
    rw [Nat.pow_one] at this
    omega
  have pw' : ∀ (e : Nat) (M1 : zM), e < 2 ^ 62 → (∀ a, a ≠ 71 → a ≠ 72 → a ≠ a2 → M1 a = M a) → low8 q d (M1 71) → low8 q d (M1 a2) → eqm ((q + 2 : Nat) : Int) (prP 8 (M a1)) (plM (prP 8 (M1 a2)) (plP (prP 8 (M1 71)) e)) (plP (prP 8 (M 71)) ((q + 2) ^ d - 2)) → ∀ F, e < F → L_Li_fillInverse_44 K a1 a2 (lN (q + 2)) F (lN e) M1 := by
    intro e
    induction e using Nat.strongRecOn with
    | ind e ih =>
      intro M1 he g1 g2 g3 g4 F0 hF
      obtain ⟨F, rfl⟩ : ∃ F, F0 = F + 1 := ⟨F0 - 1, by omega⟩
      rcases Nat.eq_zero_or_pos e with e0 | e0
      · subst e0
        refine ⟨fun _ => k M1 g1 g3 (eqm_trans (eqm_eq (fun x => ?_)) g4), fun c => absurd (by decide) c⟩
        show _ = ev (plM (prP 8 (M1 a2)) (plX 1 0)) x
        rw [ev_M, ev_X, Int.pow_zero, Int.one_mul, Int.mul_one]
      · have hle : ¬ lN e ≤ (0 : Int64) := fun c => by
          have := (pk_lLE (a := e) (b := 0) (by omega) (by decide)).mp c
          omega
        -- the squaring that follows in both roads
        have sqr : ∀ (M3 : zM), (∀ a, a ≠ 71 → a ≠ 72 → a ≠ a2 → M3 a = M a) → low8 q d (M3 71) → low8 q d (M3 a2) → (∀ v' : Pl, eqm ((q + 2 : Nat) : Int) (prP 8 (M a1)) v' (plM (prP 8 (M3 71)) (prP 8 (M3 71))) → eqm ((q + 2 : Nat) : Int) (prP 8 (M a1)) (plM (prP 8 (M3 a2)) (plP v' (e / 2))) (plP (prP 8 (M 71)) ((q + 2) ^ d - 2))) → J_Li_fillInverse_82 K (L_Li_fillInverse_44 K a1 a2 (lN (q + 2)) F) a1 a2 (lN (q + 2)) (lN e) M3 := fun M3 y1 y2 y3 y4 => by
          have ea1 : M3 a1 = M a1 := y1 a1 r1.1 r1.2 n12
          refine s_productInto (by decide) (by decide) z1 (by decide) (by decide) (by decide) r1.2 hd1 hd (by omega) (by omega) y2.1 y2.1 (by rw [ea1]; exact rr) (by rw [ea1]; exact hm) (fun M4 w1 w2 w3 w4 => s_copyInto (by decide) (by decide) (fun M5 w5 w6 x22 e22 => ?_))
          rw [ea1, cut_self (by omega) y2.2] at w4
          rw [e22, lN_shr (by omega)]
          have e71 : prP 8 (M5 71) = prP 8 (M4 72) := prP_congr w6
          have ea2 : M5 a2 = M3 a2 := by rw [w5 a2 r2.1, w1 a2 r2.2]
          refine ih (e / 2) (by omega) M5 (by omega) (fun a x y z => by rw [w5 a x, w1 a y]; exact y1 a x y z) ⟨fun l hl => by rw [w6 l hl]; exact w2 l hl, fun l a b => by rw [w6 l b]; exact w3 l a b⟩ (by rw [ea2]; exact y3) ?_ F (by omega)
          rw [e71, ea2]
          exact y4 _ w4
        rcases Nat.mod_two_eq_zero_or_one e with c | c
        · refine ⟨fun x => absurd x hle, fun _ => ⟨fun _ => sqr M1 g1 g2 g3 (fun v' hv' => eqm_even hv' (by omega) g4), fun x => absurd ((lN_and (by omega)).mp x) (by omega)⟩⟩
        · refine ⟨fun x => absurd x hle, fun _ => ⟨fun x => absurd ((lN_and (by omega)).mpr c) x, fun _ => ?_⟩⟩
          have ea1 : M1 a1 = M a1 := g1 a1 r1.1 r1.2 n12
          refine s_productInto (by decide) z2 z1 (by decide) (by decide) r2.2 r1.2 hd1 hd (by omega) (by omega) g2.1 g3.1 (by rw [ea1]; exact rr) (by rw [ea1]; exact hm) (fun M4 w1 w2 w3 w4 => s_copyInto (by decide) z2 (fun M5 w5 w6 => ?_))
          rw [ea1, cut_self (by omega) g3.2] at w4
          have e2 : prP 8 (M5 a2) = prP 8 (M4 72) := prP_congr w6
          have e71 : M5 71 = M1 71 := by rw [w5 71 (fun x => r2.1 x.symm), w1 71 (by decide)]
          refine sqr M5 (fun a x y z => by rw [w5 a z, w1 a y]; exact g1 a x y z) (by rw [e71]; exact g2) ⟨fun l hl => by rw [w6 l hl]; exact w2 l hl, fun l a b => by rw [w6 l b]; exact w3 l a b⟩ (fun v' hv' => ?_)
          rw [e71] at hv'
          rw [e2]
          exact eqm_odd hv' w4 (by omega) g4
  have key : ∀ u j, j + u = d → ∃ f, L_Li_fillInverse_6 K a1 a2 (lN (q + 2)) M f (lN ((q + 2) ^ j)) (nI j) := by
    intro u
    induction u with
    | zero =>
      intro j hj
      have : j = d := by omega
      subst this
      refine ⟨1, s_Ro_degreeOf z1 (by decide) (by decide) ?_⟩
      rw [mon_zdg hd hm, pk_m1]
      refine ⟨fun _ => s_Ar_fillJ (n := 8) z2 (by decide) (by decide) (fun M5 w1 w2 => ⟨by rw [z2]; exact vp_in_nI (n := 0) (by decide) (by decide), fun M7 e7 x8 e8 => ?_⟩), fun c => absurd (Int32.le_refl _) c⟩
      have ec : (0 : Int32).toNatClampNeg = 0 := by decide
      rw [ec] at e7
      have hx8 : x8 = lN ((q + 2) ^ j - 2) := by
        rw [e8, ← Int64.toInt_inj, zx_sub (by rw [pk_lT (by omega)]; show _ ≤ _ - (2 : Int); omega) (by rw [pk_lT (by omega)]; show _ - (2 : Int) < _; omega), pk_lT (by omega), pk_lT (by omega)]
        show ((((q + 2) ^ j : Nat)) : Int) - 2 = _
        omega
      have va : ∀ l, l < 8 → (M7 a2 l).toInt = if l = 0 then 1 else 0 := fun l hl => by
        rw [e7]
        by_cases e : l = 0
        · subst e; rw [zput_eq, if_pos rfl]; rfl
        · rw [zput_n2 e, if_neg e, w2 l hl]; rfl
      have e71 : M7 71 = M 71 := by rw [e7, zput_ne (fun x => r2.1 x.symm), w1 71 (fun x => r2.1 x.symm)]
      have eone : prP 8 (M7 a2) = plX 1 0 := pl_ext (fun l => by
        show pr 8 (M7 a2) l = if l = 0 then 1 else 0
        rcases Nat.lt_or_ge l 8 with c8 | c8
        · rw [pr_lt c8, va l c8]
        · rw [pr_ge c8, if_neg (by omega)])
      rw [hx8]
      refine ⟨(q + 2) ^ j - 2 + 1, pw' ((q + 2) ^ j - 2) M7 (by omega) (fun a x y z => by rw [e7, zput_ne z, w1 a z]) (by rw [e71]; exact hl) ⟨fun l hl => ?_, fun l a b => ?_⟩ ?_ _ (by omega)⟩
      · rw [va l hl]
        split
        · exact ⟨by decide, by omega⟩
        · exact ⟨by decide, by omega⟩
      · rw [← Int64.toInt_inj, va l b, if_neg (by omega)]; rfl
      · rw [eone, e71]
        refine eqm_eq (fun x => ?_)
        rw [ev_M, ev_X, Int.pow_zero, Int.one_mul, Int.one_mul]
    | succ u ih =>
      intro j hj
      obtain ⟨f, hf⟩ := ih (j + 1) (by omega)
      refine ⟨f + 1, s_Ro_degreeOf z1 (by decide) (by decide) ?_⟩
      rw [mon_zdg hd hm, pk_m1]
      refine ⟨fun c => absurd c (nI_ge (by omega) (by omega)), fun _ x9 e9 => ?_⟩
      rw [e9, lN_mulp, ← Nat.pow_succ, nI_1]
      exact hf
  have := key d 0 (by omega)
  rw [Nat.pow_zero] at this
  exact this
