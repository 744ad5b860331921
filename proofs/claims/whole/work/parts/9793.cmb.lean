/-! The search over sets of parts, pure. -/
def Tf (O W : Pl) : Pl → Int32 → Prop := fun f t => ∃ d e, irz f d ∧ dvz f O ∧ mlt f W e ∧ e ≤ 7 ∧ t = nI e
theorem Tf_pos {O W : Pl} {w : Nat} (hW : wld W w) (dO : dvz O W) : ∀ f t, Tf O W f t → ∃ d, d < 8 ∧ 0 < f.1 d ∧ dl (d + 1) f := fun f t ⟨d, e, h1, h2, _⟩ => by
  obtain ⟨_, _, k, k1, k2, k3⟩ := wld_b hW (dvz_trans h2 dO)
  have h := h1.2.1
  have := top_u k2 k3 (by omega) h1.2.2.1
  have := hW.2.2.2.2.1
  exact ⟨d, by omega, h, h1.2.2.1⟩
def cinv (p : Int) (c n : Nat) (O W : Pl) (P : Nat → Pl) (S U r n' : Nat) (X : Pl) (F : Nat → Pl) (t : Nat → Int32) : Prop :=
  dvz X O ∧ 0 < X.1 n' ∧ dl (n' + 1) X ∧ 1 ≤ n' ∧ r + n' ≤ n ∧
  (∀ i, i < c → (dvp p (P i) X ↔ ¬ dig 2 U i = 1)) ∧
  (∀ g k T, dvz g X → prim g → 0 < g.1 k → dl (k + 1) g → 1 ≤ k → 2 * k ≤ n' → T < 2 ^ c → (∀ i, i < c → (dig 2 T i = 1 ↔ dvp p (P i) g)) → S ≤ T) ∧
  srt F r ∧ (∀ i, i < r → Tf O W (F i) (t i)) ∧ (∀ i, i < r → ¬ dvz (F i) X) ∧ (∀ g d, irz g d → dvz g O → (∃ i, i < r ∧ g = F i) ∨ dvz g X)
theorem cinv_skip {p : Int} {c n S U r n' : Nat} {O W X : Pl} {P F : Nat → Pl} {t : Nat → Int32} (hS : S < 2 ^ c) (h : cinv p c n O W P S U r n' X F t) (no : ∀ g k, dvz g X → prim g → 0 < g.1 k → dl (k + 1) g → 1 ≤ k → 2 * k ≤ n' → (∀ i, i < c → (dig 2 S i = 1 ↔ dvp p (P i) g)) → False) : cinv p c n O W P (S + 1) U r n' X F t := by
  obtain ⟨h1, h2, h3, h4, h5, h6, h7, h8⟩ := h
  refine ⟨h1, h2, h3, h4, h5, h6, fun g k T a1 a2 a3 a4 a5 a6 a7 a8 => ?_, h8⟩
  have := h7 g k T a1 a2 a3 a4 a5 a6 a7 a8
  have hne : T ≠ S := fun e => no g k a1 a2 a3 a4 a5 a6 (fun i hi => by rw [← e]; exact a8 i hi)
  omega
theorem cinv_irz {p : Int} {c n S U r n' d : Nat} {dg : Nat → Nat} {l : Int} {O W X C Xn : Pl} {P F : Nat → Pl} {t : Nat → Int32} (hc : cst p c n dg l O P) (hOp : prim O) (hS0 : S ≠ 0) (hS : S < 2 ^ c) (h : cinv p c n O W P S U r n' X F t) (hd : dB (bS S) dg c = d) (hdn : 2 * d ≤ n') (C1 : 0 < C.1 d) (C2 : dl (d + 1) C) (e : ∀ x, ev X x = ev C x * ev Xn x) (hP : ∀ i, i < c → (dvp p (P i) C ↔ dig 2 S i = 1)) : irz C d := by
  obtain ⟨h1, h2, h3, h4, h5, h6, h7, _⟩ := h
  have dCO : dvz C O := dvz_trans (dvz_l e) h1
  have hCp := prim_dvz dCO hOp
  obtain ⟨i0, i1, i2⟩ := set_pos hS0 hS
  have hd1 : 1 ≤ d := by
    have a := dB_one (dg := dg) (bS_t.mpr i2) i1
    have b := (hc.2.1 i0 i1).2.1
    omega
  refine ⟨hCp, C1, C2, hd1, fun a k ha a1 a2 => ?_⟩
  by_cases k0 : k = 0
  · exact Or.inl k0
  · right
    obtain ⟨a', b1, b2, b3, b4, _⟩ := dvz_pos ha hCp a1 a2
    obtain ⟨q, hq⟩ := b4
    obtain ⟨k', m, km, k1, k2, _⟩ := dvz_top (by omega) C2 hq
    have ek := top_u k1 k2 (by omega) b3
    obtain ⟨T, T1, T2⟩ := msk_ex p P c a'
    have l1 := h7 a' k T (dvz_trans ⟨q, hq⟩ (dvz_l e)) b1 b2 b3 (by omega) (by omega) T1 T2
    have l2 := msk_le (S := S) T1 T2 (fun i hi x => (hP i hi).mp (dvz_dvp ⟨q, hq⟩ x))
    have eT : T = S := by omega
    have := cst_deg hc (dvz_trans ⟨q, hq⟩ dCO) (by omega) b3 T2
    rw [eT, hd] at this
    exact this.symm
theorem cinv_yes {p : Int} {c n S U r n' n'' d e0 : Nat} {dg : Nat → Nat} {l : Int} {O W X C Xn : Pl} {P F F' : Nat → Pl} {t t' : Nat → Int32} (hc : cst p c n dg l O P) (hS0 : S ≠ 0) (hS : S < 2 ^ c) (h : cinv p c n O W P S U r n' X F t) (hdn : 2 * d ≤ n') (iC : irz C d) (hm : mlt C W e0) (he7 : e0 ≤ 7) (e : ∀ x, ev X x = ev C x * ev Xn x) (hP : ∀ i, i < c → (dvp p (P i) C ↔ dig 2 S i = 1)) (hn'' : n'' + d = n') (X1 : 0 < Xn.1 n'') (X2 : dl (n'' + 1) Xn) (s1 : srt F' (r + 1)) (s2 : ∀ i, i < r + 1 → Tf O W (F' i) (t' i)) (s3 : ∀ f, (∃ i, i < r + 1 ∧ f = F' i) ↔ (∃ i, i < r ∧ f = F i) ∨ f = C) : cinv p c n O W P (S + 1) (U ||| S) (r + 1) n'' Xn F' t' := by
  obtain ⟨h1, h2, h3, h4, h5, h6, h7, h8, h9, h10, h11⟩ := h
  obtain ⟨i0, i1, i2⟩ := set_pos hS0 hS
  have hd1 := iC.2.2.2.1
  have hnS : ∀ i, i < c → dig 2 S i = 1 → ¬ dvp p (P i) Xn := fun i hi hb hx => cst_two hc h1 e hi ((hP i hi).mpr hb) hx
  have hXnX : dvz Xn X := dvz_r e
  refine ⟨dvz_trans hXnX h1, X1, X2, by omega, by omega, fun i hi => ?_, fun g k T a1 a2 a3 a4 a5 a6 a7 a8 => ?_, s1, s2, fun i hi hx => ?_, fun g d' hg hgO => ?_⟩
  · rw [or_i]
    constructor
    · intro hx y
      rcases y with y | y
      · exact (h6 i hi).mp (dvz_dvp hXnX hx) y
      · exact hnS i hi y hx
    · intro hx
      have hX := (h6 i hi).mpr (fun y => hx (Or.inl y))
      have hX' : dvp p (P i) (plM C Xn) := dvp_cg hX (cg_eq (fun x => by rw [ev_M, e x]))
      rcases irr_prime hc.1 (hc.2.1 i hi) hX' with y | y
      · exact absurd ((hP i hi).mp y) (fun z => hx (Or.inr z))
      · exact y
  · have l1 := h7 g k T (dvz_trans a1 hXnX) a2 a3 a4 a5 (by omega) a7 a8
    have hne : T ≠ S := fun eT => hnS i0 i1 i2 (dvz_dvp a1 ((a8 i0 i1).mp (by rw [eT]; exact i2)))
    omega
  · rcases (s3 (F' i)).mp ⟨i, hi, rfl⟩ with ⟨j, j1, j2⟩ | j
    · rw [j2] at hx
      exact h10 j j1 (dvz_trans hx hXnX)
    · rw [j] at hx
      exact hnS i0 i1 i2 (dvz_dvp hx ((hP i0 i1).mpr i2))
  · rcases h11 g d' hg hgO with ⟨j, j1, j2⟩ | j
    · exact Or.inl ((s3 g).mpr (Or.inl ⟨j, j1, j2⟩))
    · obtain ⟨y, hy⟩ := j
      rcases irz_prime hg (a := C) (b := Xn) ⟨y, fun x => by rw [ev_M, ← e x, hy x]⟩ with z | z
      · exact Or.inl ((s3 g).mpr (Or.inr (irz_eq hg iC z)))
      · exact Or.inr z
theorem cinv_end {p : Int} {c n U r n' : Nat} {O W X : Pl} {P F : Nat → Pl} {t : Nat → Int32} (hOp : prim O) (h : cinv p c n O W P (2 ^ c) U r n' X F t) : irz X n' := by
  obtain ⟨h1, h2, h3, h4, h5, h6, h7, _⟩ := h
  have hXp := prim_dvz h1 hOp
  have bad : ∀ a k, dvz a X → a.1 k ≠ 0 → dl (k + 1) a → 1 ≤ k → 2 * k ≤ n' → False := fun a k ha a1 a2 k1 k2 => by
    obtain ⟨a', b1, b2, b3, b4, _⟩ := dvz_pos ha hXp a1 a2
    obtain ⟨T, T1, T2⟩ := msk_ex p P c a'
    have := h7 a' k T b4 b1 b2 b3 k1 k2 T1 T2
    omega
  refine ⟨hXp, h2, h3, h4, fun a k ha a1 a2 => ?_⟩
  by_cases k0 : k = 0
  · exact Or.inl k0
  · right
    refine Classical.byContradiction (fun kn => ?_)
    obtain ⟨q, hq⟩ := id ha
    obtain ⟨k', m, km, k1, k2, m1, m2, _⟩ := dvz_top (by omega) h3 hq
    have ek := top_u k1 k2 a1 a2
    by_cases c2 : 2 * k ≤ n'
    · exact bad a k ha a1 a2 (by omega) c2
    · exact bad q m (dvz_r hq) m1 m2 (by omega) (by omega)
/-- the factors of O, sorted, with how often they divide W -/
def fac (O W : Pl) (r : Nat) (F : Nat → Pl) (t : Nat → Int32) : Prop := srt F r ∧ (∀ i, i < r → Tf O W (F i) (t i)) ∧ ∀ g d, irz g d → dvz g O → ∃ i, i < r ∧ g = F i
theorem fac_uniq {O W : Pl} {r s : Nat} {F G : Nat → Pl} {t u : Nat → Int32} (h : fac O W r F t) (g : fac O W s G u) : r = s ∧ ∀ i, i < r → F i = G i ∧ t i = u i := by
  obtain ⟨h1, h2, h3⟩ := h
  obtain ⟨g1, g2, g3⟩ := g
  have := srt_uniq h1 g1 (fun i hi => by
    obtain ⟨d, e, a1, a2, _⟩ := h2 i hi
    exact g3 _ d a1 a2) (fun j hj => by
    obtain ⟨d, e, a1, a2, _⟩ := g2 j hj
    exact h3 _ d a1 a2)
  obtain ⟨rs, hF⟩ := this
  refine ⟨rs, fun i hi => ⟨hF i hi, ?_⟩⟩
  obtain ⟨d, e, a1, a2, a3, a4, a5⟩ := h2 i hi
  obtain ⟨d', e', b1, b2, b3, b4, b5⟩ := g2 i (by omega)
  rw [← hF i hi] at b3
  rw [a5, b5, mlt_uniq (irz_nz a1) a3 b3]
theorem cinv_fac {p : Int} {c n U r n' : Nat} {O W X : Pl} {P F F' : Nat → Pl} {t t' : Nat → Int32} (hOp : prim O) (h : cinv p c n O W P (2 ^ c) U r n' X F t) (s1 : srt F' (r + 1)) (s2 : ∀ i, i < r + 1 → Tf O W (F' i) (t' i)) (s3 : ∀ f, (∃ i, i < r + 1 ∧ f = F' i) ↔ (∃ i, i < r ∧ f = F i) ∨ f = X) : fac O W (r + 1) F' t' := by
  have iX := cinv_end hOp h
  obtain ⟨h1, h2, h3, h4, h5, h6, h7, h8, h9, h10, h11⟩ := h
  refine ⟨s1, s2, fun g d hg hgO => (s3 g).mpr ?_⟩
  rcases h11 g d hg hgO with x | x
  · exact Or.inl x
  · exact Or.inr (irz_eq hg iX x)
