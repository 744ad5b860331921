/-! split of the reference. -/
theorem sqf_dvz {p : Int} {X Y O : Pl} (e : ∀ x, ev O x = ev X x * ev Y x) (h : sqf p O) : sqf p X := by
  have eO : O = plM X Y := ev_ext (fun x => by rw [ev_M]; exact e x)
  obtain ⟨u, v, r, hr⟩ := h
  refine ⟨plA (plM u Y) (plM v (plT Y)), plM v Y, r, fun x => ?_⟩
  have h1 := hr x
  rw [eO] at h1
  simp only [ev_A, ev_M, ev_TM] at h1 ⊢
  rw [h1]
  grind
def rinv (O X : Pl) (n n0 r : Nat) (F : Nat → Pl) : Prop := dvz X O ∧ 0 < X.1 n ∧ dl (n + 1) X ∧ 1 ≤ n ∧ r + n ≤ n0 ∧ (∀ i, i < r → ∃ d, irz (F i) d ∧ dvz (F i) O) ∧ (∀ i, i < r → ¬ dvz (F i) X) ∧ (∀ i j, i < j → j < r → F i ≠ F j) ∧ ∀ g d, irz g d → dvz g O → (∃ i, i < r ∧ g = F i) ∨ dvz g X
def ndz (X : Pl) (n d : Nat) : Prop := ∀ g k, dvz g X → prim g → 0 < g.1 k → dl (k + 1) g → 1 ≤ k → k < d → 2 * k ≤ n → False
def nez (p d e : Nat) (X : Pl) : Prop := ∀ g, dvz g X → prim g → 0 < g.1 d → dl (d + 1) g → ∀ t, t < e → cg (p : Int) g (plK (g.1 d) (tpl p d t)) → False
theorem ndz_half {X : Pl} {n d : Nat} (hX : prim X) (X1 : 0 < X.1 n) (X2 : dl (n + 1) X) (n1 : 1 ≤ n) (h : ndz X n d) (hn : n < 2 * d) : irz X n := by
  have bad : ∀ a k, dvz a X → a.1 k ≠ 0 → dl (k + 1) a → 1 ≤ k → 2 * k ≤ n → False := fun a k ha a1 a2 k1 k2 => by
    obtain ⟨a', b1, b2, b3, b4, _⟩ := dvz_pos ha hX a1 a2
    exact h a' k b4 b1 b2 b3 k1 (by omega) k2
  refine ⟨hX, X1, X2, n1, fun a k ha a1 a2 => ?_⟩
  by_cases k0 : k = 0
  · exact Or.inl k0
  · right
    refine Classical.byContradiction (fun kn => ?_)
    obtain ⟨q, hq⟩ := id ha
    obtain ⟨k', m, km, k1, k2, m1, m2, _⟩ := dvz_top (by omega) X2 hq
    have ek := top_u k1 k2 a1 a2
    by_cases c2 : 2 * k ≤ n
    · exact bad a k ha a1 a2 (by omega) c2
    · exact bad q m (dvz_r hq) m1 m2 (by omega) (by omega)
/-- every divisor with a good leading number has a place -/
theorem tpl_ix {p d : Nat} (hpr : prm (p : Int)) {g : Pl} (hl : ¬ (p : Int) ∣ g.1 d) (g2 : dl (d + 1) g) : ∃ t, t < p ^ d ∧ cg (p : Int) g (plK (g.1 d) (tpl p d t)) := by
  obtain ⟨v, y, hv⟩ := inv_ex hpr hl
  have hp0 : 0 < p := by have := hpr.1; omega
  have hm : mon (plA (plK v (plS g (plX (g.1 d) d))) (plX 1 d)) d := by
    refine ⟨fun i hi => ?_, ?_⟩
    · show v * (g.1 i - (if i = d then g.1 d else 0)) + (if i = d then (1 : Int) else 0) = 0
      rw [if_neg (by omega), if_neg (by omega), g2 i hi]
      omega
    · show v * (g.1 d - (if d = d then g.1 d else 0)) + (if d = d then (1 : Int) else 0) = 1
      rw [if_pos rfl, if_pos rfl, Int.sub_self, Int.mul_zero]
      rfl
  obtain ⟨t, t1, r, hr⟩ := tpl_all hp0 hm
  refine ⟨t, t1, cg_symm ⟨plA (plK (g.1 d) r) (plK y (plS g (plX (g.1 d) d))), fun x => ?_⟩⟩
  have h1 := hr x
  simp only [ev_A, ev_K, ev_S, ev_X] at h1 ⊢
  rw [h1]
  generalize ev g x = G at *
  generalize ev r x = R at *
  generalize g.1 d = a at *
  generalize x ^ d = z at *
  have hv' : a * v = 1 + p * y := by omega
  have e1 : a * (v * (G - a * z) + 1 * z + p * R) = (a * v) * (G - a * z) + a * z + p * (a * R) := by grind
  rw [e1, hv']
  grind
theorem nez_succ {p d n : Nat} {X : Pl} (hpr : prm (p : Int)) (X1 : X.1 n ≠ 0) (X2 : dl (n + 1) X) (hl : ¬ (p : Int) ∣ X.1 n) (h : ndz X n d) (g : nez p d (p ^ d) X) : ndz X n (d + 1) := fun a k a1 a2 a3 a4 a5 a6 a7 => by
  by_cases c : k < d
  · exact h a k a1 a2 a3 a4 a5 c a7
  · have : k = d := by omega
    subst this
    have hla : ¬ (p : Int) ∣ a.1 k := fun y => hl (by
      obtain ⟨q, hq⟩ := a1
      obtain ⟨k', m, _, k1, k2, _, _, kk⟩ := dvz_top X1 X2 hq
      have := top_u k1 k2 (by omega) a4
      subst this
      rw [← kk]
      exact Int.dvd_mul_of_dvd_left y)
    obtain ⟨t, t1, t2⟩ := tpl_ix hpr hla a4
    exact g a a1 a2 a3 a4 t t1 t2
theorem tpl_nun {p d e : Nat} (hpr : prm (p : Int)) (hd : 1 ≤ d) : ¬ dvp (p : Int) (tpl p d e) (plX 1 0) := fun c => by
  have h0 : mt (p : Int) (plX 1 0) 0 := mt_of (by show ¬ (p : Int) ∣ (if 0 = 0 then (1 : Int) else 0); rw [if_pos rfl]; exact prm_1 hpr) (dl_X (Nat.succ_pos _))
  have := dvp_mt hpr (mon_mt hpr (tpl_mon p d e)) c h0
  omega
theorem rinv_yes {p d e n n0 r : Nat} {O X C X' : Pl} {F F' : Nat → Pl} (hpr : prm (p : Int)) (hOp : prim O) (hsq : sqf (p : Int) O) (h : rinv O X n n0 r F) (hnd : ndz X n d) (hne : nez p d e X) (d1 : 1 ≤ d) (hdn : 2 * d ≤ n) (C0 : prim C) (C1 : 0 < C.1 d) (C2 : dl (d + 1) C) (hC : dvp (p : Int) (tpl p d e) C) (eq : ∀ x, ev X x = ev C x * ev X' x) (hF1 : ∀ i, i < r → F' i = F i) (hF2 : F' r = C) : ∃ n', 0 < X'.1 n' ∧ dl (n' + 1) X' ∧ d ≤ n' ∧ n' < n ∧ rinv O X' n' n0 (r + 1) F' ∧ ndz X' n' d ∧ nez p d (e + 1) X' := by
  obtain ⟨h1, h2, h3, h4, h5, h6, h7, h8, h9⟩ := h
  obtain ⟨k', n', kn, k1, k2, k3, k4, kk⟩ := dvz_top (by omega) h3 eq
  have := top_u k1 k2 (by omega) C2
  subst this
  have hX' : 0 < X'.1 n' := by
    rcases Int.lt_or_le 0 (X'.1 n') with y | y
    · exact y
    · exfalso
      have : C.1 k' * X'.1 n' ≤ 0 := Int.mul_nonpos_of_nonneg_of_nonpos (by omega) y
      omega
  have dXX : dvz X' X := dvz_r eq
  have dCX : dvz C X := dvz_l eq
  obtain ⟨Y, hY⟩ := id h1
  have hsX : sqf (p : Int) X := sqf_dvz hY hsq
  have hcop : cop (p : Int) C X' := sqf_cop hpr hsX ⟨plX 1 0, cg_eq (fun x => by rw [ev_M, ev_M, ev_X, Int.pow_zero, eq x]; grind)⟩
  have hnt : ¬ dvp (p : Int) (tpl p k' e) X' := fun c => tpl_nun hpr d1 (cop_dvp1 hcop hC c)
  have iC : irz C k' := by
    refine ⟨C0, C1, C2, d1, fun a k ha a1 a2 => ?_⟩
    by_cases k0 : k = 0
    · exact Or.inl k0
    · right
      refine Classical.byContradiction (fun kn' => ?_)
      obtain ⟨a', b1, b2, b3, b4, _⟩ := dvz_pos ha C0 a1 a2
      obtain ⟨q, hq⟩ := b4
      obtain ⟨k'', m, km, j1, j2, _⟩ := dvz_top (by omega) C2 hq
      have := top_u j1 j2 (by omega) b3
      exact hnd a' k (dvz_trans ⟨q, hq⟩ dCX) b1 b2 b3 (by omega) (by omega) (by omega)
  refine ⟨n', hX', k4, by omega, by omega, ⟨dvz_trans dXX h1, hX', k4, by omega, by omega, fun i hi => ?_, fun i hi c => ?_, fun i j hij hj => ?_, fun g d' hg hgO => ?_⟩, fun g k a1 a2 a3 a4 a5 a6 a7 => hnd g k (dvz_trans a1 dXX) a2 a3 a4 a5 a6 (by omega), fun g a1 a2 a3 a4 t ht a5 => ?_⟩
  · by_cases c : i = r
    · rw [c, hF2]; exact ⟨k', iC, dvz_trans dCX h1⟩
    · rw [hF1 i (by omega)]; exact h6 i (by omega)
  · by_cases c2 : i = r
    · rw [c2, hF2] at c
      exact hnt (dvz_dvp c hC)
    · rw [hF1 i (by omega)] at c
      exact h7 i (by omega) (dvz_trans c dXX)
  · by_cases c2 : j = r
    · rw [c2, hF2, hF1 i (by omega)]
      intro y
      exact h7 i (by omega) (by rw [y]; exact dCX)
    · rw [hF1 i (by omega), hF1 j (by omega)]
      exact h8 i j hij (by omega)
  · rcases h9 g d' hg hgO with ⟨j, j1, j2⟩ | j
    · exact Or.inl ⟨j, by omega, by rw [hF1 j j1]; exact j2⟩
    · obtain ⟨y, hy⟩ := j
      rcases irz_prime hg (a := C) (b := X') ⟨y, fun x => by rw [ev_M, ← eq x, hy x]⟩ with z | z
      · exact Or.inl ⟨r, by omega, by rw [hF2]; exact irz_eq hg iC z⟩
      · exact Or.inr z
  · by_cases c : t = e
    · subst c
      refine hnt (dvz_dvp a1 ⟨plX (g.1 k') 0, cg_trans a5 (cg_eq (fun x => by rw [ev_K, ev_M, ev_X, Int.pow_zero, Int.mul_one, Int.mul_comm]))⟩)
    · exact hne g (dvz_trans a1 dXX) a2 a3 a4 t (by omega) a5
/-- the found factors: all of them, each once -/
def rfin (O : Pl) (r : Nat) (F : Nat → Pl) : Prop := (∀ i, i < r → ∃ d, irz (F i) d ∧ dvz (F i) O) ∧ (∀ i j, i < j → j < r → F i ≠ F j) ∧ ∀ g d, irz g d → dvz g O → ∃ i, i < r ∧ g = F i
theorem rinv_end {n n0 r d : Nat} {O X : Pl} {F F' : Nat → Pl} (hOp : prim O) (h : rinv O X n n0 r F) (hnd : ndz X n d) (hn : n < 2 * d) (hF1 : ∀ i, i < r → F' i = F i) (hF2 : F' r = X) : rfin O (r + 1) F' := by
  obtain ⟨h1, h2, h3, h4, h5, h6, h7, h8, h9⟩ := h
  have iX := ndz_half (prim_dvz h1 hOp) h2 h3 h4 hnd hn
  refine ⟨fun i hi => ?_, fun i j hij hj => ?_, fun g d' hg hgO => ?_⟩
  · by_cases c : i = r
    · rw [c, hF2]; exact ⟨n, iX, h1⟩
    · rw [hF1 i (by omega)]; exact h6 i (by omega)
  · by_cases c2 : j = r
    · rw [c2, hF2, hF1 i (by omega)]
      intro y
      exact h7 i (by omega) (by rw [y]; exact dvz_refl)
    · rw [hF1 i (by omega), hF1 j (by omega)]
      exact h8 i j hij (by omega)
  · rcases h9 g d' hg hgO with ⟨j, j1, j2⟩ | j
    · exact ⟨j, by omega, by rw [hF1 j j1]; exact j2⟩
    · exact ⟨r, by omega, by rw [hF2]; exact irz_eq hg iX j⟩
def spI (n0 : Nat) (O : Pl) (M0 : zM) (N0 : zN) (n r : Nat) (M1 : zM) (N1 : zN) : Prop := (∀ a, ¬ (103 ≤ a ∧ a ≤ 117) ∨ a = 104 → M1 a = M0 a) ∧ (∀ a, a ≠ 99 → N1 a = N0 a) ∧ (∀ j, j ≠ 6 → N1 99 j = N0 99 j) ∧ N1 99 6 = nI r ∧ rinv O (prP 16 (M1 105)) n n0 r (Nf M1)
theorem Nf_at {M : zM} {r : Nat} {C : Pl} (hC : dl 8 C) (h : ∀ i, i < 8 → (M 103 (8 * r + i)).toInt = C.1 i) : Nf M r = C := pl_ext (fun i => by
  show pr 8 (fun k => M 103 (8 * r + k)) i = C.1 i
  rcases Nat.lt_or_ge i 8 with c | c
  · rw [pr_lt c]; exact h i c
  · rw [pr_ge c, hC i c])
theorem Nf_off {M M' : zM} {i r : Nat} (hi : i ≠ r) (h : ∀ j, ¬ (8 * r ≤ j ∧ j < 8 * r + 8) → M' 103 j = M 103 j) : Nf M' i = Nf M i := prP_congr (fun k hk => h _ (by omega))
theorem s_spl51 {K : zM → zN → Prop} {k32 : Int32 → Int32 → zM → zN → Prop} {d n0 p w l0 : Nat} {W O : Pl} {M0 : zM} {N0 : zN} (hW : wld W w) (dO : dvz O W) (hpm : p ∈ smP) (hOp : prim O) (hsq : sqf (p : Int) O) (n07 : n0 ≤ 7) (O1 : O.1 n0 = l0) (O3 : 0 < l0) (O4 : l0 < 100000) (O2 : dl (n0 + 1) O) (hpl : ¬ (p : Int) ∣ O.1 n0) (d1 : 1 ≤ d) (d4 : d < 4)
    (next : ∀ n r M1 N1, spI n0 O M0 N0 n r M1 N1 → ndz (prP 16 (M1 105)) n (d + 1) → k32 (nI n) (nI d + 1) M1 N1) : ∀ u e n r (M1 : zM) (N1 : zN), e + u = p ^ d → spI n0 O M0 N0 n r M1 N1 → ndz (prP 16 (M1 105)) n d → nez p d e (prP 16 (M1 105)) → L_Mo_split_51 K k32 (lN p) (nI d) (lN (p ^ d)) (u + 1) (nI n) (lN e) M1 N1 := by
  obtain ⟨p1, p2, _⟩ := smP_c p hpm
  have hpr := smP_p p hpm
  have hpd : p ^ d ≤ 200 ^ 3 := Nat.le_trans (Nat.pow_le_pow_left (by omega) d) (Nat.pow_le_pow_right (by decide) (by omega))
  have h200 : (200 : Nat) ^ 3 = 8000000 := by decide
  have lead : ∀ (X : Pl) (n : Nat), dvz X O → 0 < X.1 n → dl (n + 1) X → X.1 n < 100000 ∧ ¬ (p : Int) ∣ X.1 n := fun X n hX X1 X2 => by
    obtain ⟨q, hq⟩ := hX
    obtain ⟨k', m, _, k1, k2, k3, k4, kk⟩ := dvz_top (by omega) O2 hq
    have := top_u k1 k2 (by omega) X2
    subst this
    refine ⟨?_, fun y => hpl (by rw [← kk]; exact Int.dvd_mul_of_dvd_left y)⟩
    have hm0 : 0 < q.1 m := by
      rcases Int.lt_or_le 0 (q.1 m) with y | y
      · exact y
      · exfalso
        have : X.1 k' * q.1 m ≤ 0 := Int.mul_nonpos_of_nonneg_of_nonpos (by omega) y
        omega
    have : X.1 k' * 1 ≤ X.1 k' * q.1 m := Int.mul_le_mul_of_nonneg_left (by omega) (by omega)
    omega
  intro u
  induction u with
  | zero =>
    intro e n r M1 N1 he hI hnd hne
    have : e = p ^ d := by omega
    subst this
    obtain ⟨i1, i2, i3, i4, i5⟩ := id hI
    have hl := lead _ n i5.1 i5.2.1 i5.2.2.1
    refine ⟨fun _ => next n r M1 N1 hI (nez_succ hpr (by have := i5.2.1; omega) i5.2.2.1 hl.2 hnd hne), fun c => absurd ?_ c⟩
    exact (pk_lLE (a := p ^ d) (b := p ^ d) (by omega) (by omega)).mpr (Nat.le_refl _)
  | succ u ih =>
    intro e n r M1 N1 he hI hnd hne
    obtain ⟨i1, i2, i3, i4, i5⟩ := id hI
    obtain ⟨x1, x2, x3, x4, x5, x6, x7, x8, x9⟩ := id i5
    have hl := lead _ n x1 x2 x3
    have dXW : dvz (prP 16 (M1 105)) W := dvz_trans x1 dO
    obtain ⟨bX, _, _⟩ := wld_b hW dXW
    obtain ⟨Y, hY⟩ := id x1
    have hsX := sqf_dvz hY hsq
    refine ⟨fun c => ?_, fun _ => ⟨fun c => ?_, fun c => ?_⟩⟩
    · have := (pk_lLE (a := p ^ d) (b := e) (by omega) (by omega)).mp c
      omega
    · rw [show (2 : Int32) = nI 2 from rfl, pk_mul, nI_ltI (by omega) (by omega)] at c
      exact next n r M1 N1 hI (fun g k a1 a2 a3 a4 a5 a6 a7 => hnd g k a1 a2 a3 a4 a5 (by omega) a7)
    · rw [show (2 : Int32) = nI 2 from rfl, pk_mul, nI_ltI (by omega) (by omega)] at c
      refine s_Mo_lay (by omega) (by omega) (by omega) (by omega) (fun M15 f1 f2 => ?_)
      obtain ⟨t1, t2⟩ := tpl_row (p := p) (d := d) (e := e) (f := M15 114) (by omega) p1 (by omega) f2
      have e105 : M15 105 = M1 105 := f1 105 (by decide)
      have cutX : prP (n + 1) (M1 105) = prP 16 (M1 105) := prP_cutX rfl x3 (by omega)
      refine s_Mo_dividesModulo (P := p) (by decide) (by decide) (by decide) (by decide) (by omega) (by omega) p1 (by omega) t2 (by rw [t1]; exact tpl_mon p d e) (fun i hi => ?_) (fun M18 w1 _ _ w2 => ⟨fun c => absurd c (by decide), fun _ => ?_⟩) (fun M18 w1 w2 => ⟨fun _ x20 e20 => ?_, fun c => absurd rfl c⟩)
      · rw [e105]
        have := bX i
        rw [show (prP 16 (M1 105)).1 i = (M1 105 i).toInt from pr_lt (by omega)] at this
        unfold ab at this
        omega
      · have e18 : M18 105 = M1 105 := by rw [w1 105 (by decide) (by decide)]; exact e105
        have fr18 : ∀ a, a ≠ 109 → a ≠ 110 → a ≠ 114 → M18 a = M1 a := fun a x y z => by rw [w1 a x y]; exact f1 a z
        have hdv : dvp (p : Int) (tpl p d e) (prP 16 (M1 105)) := by
          rw [e105, cutX, t1] at w2
          exact ⟨prP 16 (M18 110), cg_trans w2 (cg_eq (fun x => by rw [ev_M, ev_M, Int.mul_comm]))⟩
        refine s_splits (W := W) (X := prP 16 (M1 105)) (e := e) (r := r) hW dXW hpm (by rw [e18]) x2 hl.1 x3 (by omega) d1 (by omega) hsX (fun i hi => by rw [w1 114 (by decide) (by decide)]; exact f2 i hi) hdv (by omega) i4 (fun M22 C g1 g2 g3 g4 g5 g6 g7 g8 => ⟨fun c => absurd c (by decide), fun _ => ?_⟩) (fun M22 g1 g2 => ⟨fun _ x24 e24 => ?_, fun c => absurd rfl c⟩)
        · have e103 : M18 103 = M1 103 := fr18 103 (by decide) (by decide) (by decide)
          rw [e103] at g8
          obtain ⟨n', y1, y2, y3, y4, y5, y6, y7⟩ := rinv_yes hpr hOp hsq i5 hnd hne d1 (by omega) g2 g3 g4 g5 g6 (F' := Nf M22) (fun i hi => Nf_off (r := r) (by omega) g8) (Nf_at (dl_mono (by omega) g4) g7)
          refine s_Mo_degreeOf (by decide) (fun x28 e28 => ?_)
          rw [row_zdg16 (n := n') (by omega) (by omega) y2, pk_m1, e28, lN_1]
          refine ih (e + 1) n' (r + 1) M22 _ (by omega) ⟨fun a x => ?_, fun a x => by rw [zpui_ne x]; exact i2 a x, fun j x => by rw [zpui_n2 x]; exact i3 j x, by rw [zpui_eq], y5⟩ y6 y7
          rw [g1 a (by omega), fr18 a (by omega) (by omega) (by omega)]
          exact i1 a x
        · rw [e24, lN_1]
          have e22 : M22 105 = M1 105 := by rw [g1 105 (by omega)]; exact e18
          have e22' : M22 103 = M1 103 := by rw [g1 103 (by omega)]; exact fr18 103 (by decide) (by decide) (by decide)
          have eN : Nf M22 = Nf M1 := funext (fun i => by
            show prP 8 (fun k => M22 103 (8 * i + k)) = prP 8 (fun k => M1 103 (8 * i + k))
            rw [e22'])
          refine ih (e + 1) n r M22 N1 (by omega) ⟨fun a x => ?_, i2, i3, i4, by rw [e22, eN]; exact i5⟩ (by rw [e22]; exact hnd) ?_
          · rw [g1 a (by omega), fr18 a (by omega) (by omega) (by omega)]
            exact i1 a x
          · rw [e22]
            intro g a1 a2 a3 a4 t ht a5
            by_cases ct : t = e
            · subst ct; exact g2 g a1 a2 a3 a4 a5
            · exact hne g a1 a2 a3 a4 t (by omega) a5
      · rw [e20, lN_1]
        have e18 : M18 105 = M1 105 := by rw [w1 105 (by decide) (by decide)]; exact e105
        have e18' : M18 103 = M1 103 := by rw [w1 103 (by decide) (by decide)]; exact f1 103 (by decide)
        have eN : Nf M18 = Nf M1 := funext (fun i => by
          show prP 8 (fun k => M18 103 (8 * i + k)) = prP 8 (fun k => M1 103 (8 * i + k))
          rw [e18'])
        rw [e105, cutX, t1] at w2
        refine ih (e + 1) n r M18 N1 (by omega) ⟨fun a x => ?_, i2, i3, i4, by rw [e18, eN]; exact i5⟩ (by rw [e18]; exact hnd) ?_
        · rw [w1 a (by omega) (by omega), f1 a (by omega)]
          exact i1 a x
        · rw [e18]
          intro g a1 a2 a3 a4 t ht a5
          by_cases ct : t = e
          · subst ct
            exact w2 (dvz_dvp a1 ⟨plX (g.1 d) 0, cg_trans a5 (cg_eq (fun x => by rw [ev_K, ev_M, ev_X, Int.pow_zero, Int.mul_one, Int.mul_comm]))⟩)
          · exact hne g a1 a2 a3 a4 t (by omega) a5
theorem s_split {K : zM → zN → Prop} {n0 p w : Nat} {W O : Pl} {M : zM} {N : zN} (hW : wld W w) (dO : dvz O W) (hOp : prim O) (hO : prP 16 (M 105) = O) (n01 : 1 ≤ n0) (n07 : n0 ≤ 7) (O3 : 0 < O.1 n0) (O4 : O.1 n0 < 100000) (O2 : dl (n0 + 1) O) (hfp : fst_p O n0 p)
    (k : ∀ (r : Nat) (M' : zM) (N' : zN), (∀ a, ¬ (103 ≤ a ∧ a ≤ 117) ∨ a = 104 → M' a = M a) → (∀ a, a ≠ 99 → N' a = N a) → (∀ j, j ≠ 6 → N' 99 j = N 99 j) → N' 99 6 = nI r → 1 ≤ r → r ≤ 7 → rfin O r (Nf M') → K M' N') : w_Mo_split M N K := by
  intro N1 e1
  have hpm : p ∈ smP := hfp.1
  have hpl : ¬ (p : Int) ∣ O.1 n0 := hfp.2.1.1
  have hsq : sqf (p : Int) O := hfp.2.1.2
  obtain ⟨p1, p2, _⟩ := smP_c p hpm
  obtain ⟨bO, _, _⟩ := wld_b hW dO
  obtain ⟨l0, hl0⟩ : ∃ l : Nat, O.1 n0 = (l : Int) := ⟨(O.1 n0).toNat, by omega⟩
  -- the end
  have fin : ∀ d n r (M1 : zM) (N2 : zN), n < 2 * d → spI n0 O M N n r M1 N2 → ndz (prP 16 (M1 105)) n d → w_Mo_note 105 M1 N2 (fun M9 N10 => K M9 N10) := by
    intro d n r M1 N2 hn hI hnd
    obtain ⟨i1, i2, i3, i4, i5⟩ := id hI
    have x3 := i5.2.2.1
    have x4 := i5.2.2.2.1
    have x5 := i5.2.2.2.2.1
    refine s_note (by decide) (by decide) (show r < 7 by omega) i4 (fun M' g1 g2 g3 => ?_)
    refine k (r + 1) M' _ (fun a x => by rw [g1 a (by omega)]; exact i1 a x) (fun a x => by rw [zpui_ne x]; exact i2 a x) (fun j x => by rw [zpui_n2 x]; exact i3 j x) zpui_eq (by omega) (by omega) (rinv_end hOp i5 hnd hn (fun i hi => Nf_off (r := r) (by omega) g3) (Nf_at (dl_mono (by omega) x3) (fun i hi => ?_)))
    rw [g2 i hi]
    exact (pr_lt (by omega)).symm
  have key : ∀ u d n r (M1 : zM) (N2 : zN), d + u = 4 → 1 ≤ d → spI n0 O M N n r M1 N2 → ndz (prP 16 (M1 105)) n d → L_Mo_split_32 K (lN p) (u + 1) (nI n) (nI d) M1 N2 := by
    intro u
    induction u with
    | zero =>
      intro d n r M1 N2 hd d1 hI hnd
      have x5 := hI.2.2.2.2.2.2.2.2.1
      refine ⟨fun _ => fin d n r M1 N2 (by omega) hI hnd, fun c => absurd ?_ c⟩
      rw [show (2 : Int32) = nI 2 from rfl, pk_mul]
      exact nI_lt (by omega) (by omega)
    | succ u ih =>
      intro d n r M1 N2 hd d1 hI hnd
      have x5 := hI.2.2.2.2.2.2.2.2.1
      refine ⟨fun c => ?_, fun c => s_Mo_power (by omega) ⟨p ^ d + 1, ?_⟩⟩
      · rw [show (2 : Int32) = nI 2 from rfl, pk_mul, nI_ltI (by omega) (by omega)] at c
        exact fin d n r M1 N2 c hI hnd
      · refine s_spl51 (w := w) (l0 := l0) hW dO hpm hOp hsq n07 hl0 (by omega) (by omega) O2 hpl d1 (by omega) (fun n' r' M' N' h1 h2 => ?_) (p ^ d) 0 n r M1 N2 (by omega) hI hnd (fun g a1 a2 a3 a4 t ht a5 => absurd ht (Nat.not_lt_zero _))
        rw [nI_1]
        exact ih (d + 1) n' r' M' N' (by omega) (by omega) h1 h2
  have nd1 : ∀ n (X : Pl), ndz X n 1 := fun n X g k a1 a2 a3 a4 a5 a6 a7 => by omega
  have hI0 : ∀ M1 : zM, (∀ a, a ≠ 107 → a ≠ 111 → a ≠ 112 → M1 a = M a) → spI n0 O M N n0 0 M1 N1 := fun M1 f => by
    have e5 : prP 16 (M1 105) = O := by rw [f 105 (by decide) (by decide) (by decide)]; exact hO
    refine ⟨fun a x => f a (by omega) (by omega) (by omega), fun a x => by rw [e1, zpui_ne x], fun j x => by rw [e1, zpui_n2 x], by rw [e1, zpui_eq]; rfl, ?_⟩
    rw [e5]
    exact ⟨dvz_refl, O3, O2, n01, by omega, fun i hi => absurd hi (Nat.not_lt_zero _), fun i hi => absurd hi (Nat.not_lt_zero _), fun i j _ hj => absurd hj (Nat.not_lt_zero _), fun g d _ hg => Or.inr hg⟩
  refine s_Mo_degreeOf (by decide) ?_
  rw [row_zdg16 (n := n0) (by omega) (by rw [hO]; omega) (by rw [hO]; exact O2), pk_m1]
  refine ⟨fun c => ?_, fun c => ?_⟩
  · have hn1 : n0 ≤ 1 := (nI_leI (b := 1) (by omega) (by decide)).mp c
    refine ⟨1, ⟨fun _ => fin 1 n0 0 M N1 (by omega) (hI0 M (fun _ _ _ _ => rfl)) (nd1 _ _), fun c => absurd ?_ c⟩⟩
    rw [show (2 : Int32) * 1 = nI 2 from rfl]
    exact nI_lt (by omega) (by decide)
  · refine s_Mo_goodPrime (k := n0) (p := p) n01 (by rw [hO]; omega) (by rw [hO]; exact O2) (by omega) (fun i hi => ?_) (by rw [hO]; exact hfp) (fun M6 f => ⟨4, key 3 1 n0 0 M6 N1 (by decide) (by decide) (hI0 M6 f) (nd1 _ _)⟩)
    have := bO i
    rw [← hO, show (prP 16 (M 105)).1 i = (M 105 i).toInt from pr_lt hi] at this
    unfold ab at this
    omega
