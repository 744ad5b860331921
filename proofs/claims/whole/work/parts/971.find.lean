/-! The class's greatest common divisor. -/
theorem z_pdiv_ev {f g h : Nat → Int64} (hp : pdiv (pr 8 f) (pr 8 g) (pr 8 h)) (x : Int) : ev (prP 8 f) x = ev (prP 8 g) x * ev (prP 8 h) x := by
  have e : prP 8 f = plM (prP 8 h) (prP 8 g) := pl_ext (fun i => (hp.2.2 i).symm)
  rw [e, ev_M, Int.mul_comm]
theorem zlp_big : ∀ j, j < 9 → zlp j = lN (bigC.getD j 0) ∧ bigC.getD j 0 ∈ bigC := by decide
theorem bigC_ix : ∀ p, p ∈ bigC → ∃ j, j < 9 ∧ bigC.getD j 0 = p := by decide
theorem s_find83 {K : zM → Prop} {k20 : Int32 → zM → Prop} {l v4 : Int64} {v3 : Int32} {r : Nat} {M : zM} {P : Nat} (hr : zlong r = 8) (rne : r ≠ 13) (p0 : 2 < P) (p1 : P < 2 ^ 31) (hv4 : v4 = lN P) (hx : ∀ i, i < 8 → (M r i * l).toInt = (M r i).toInt * l.toInt ∧ ((M r i).toInt * l.toInt).natAbs < 2 ^ 62) (k : ∀ M' : zM, (∀ a, a ≠ 13 → M' a = M a) → (∀ i, i < 8 → (P : Int) ∣ (M' 13 i).toInt - (M r i).toInt * l.toInt ∧ 2 * ab (M' 13 i).toInt ≤ P) → B_CD_findPrimitive_83 K k20 l v3 v4 r (fun _ _ => False) (8 : Int32) M') : ∃ n, L_CD_findPrimitive_83 K k20 l v3 v4 r n (0 : Int32) M := by
  have z13 : zlong 13 = 8 := by decide
  have key : ∀ d j (M1 : zM), j + d = 8 → (∀ a, a ≠ 13 → M1 a = M a) → (∀ i, i < j → (P : Int) ∣ (M1 13 i).toInt - (M r i).toInt * l.toInt ∧ 2 * ab (M1 13 i).toInt ≤ P) → L_CD_findPrimitive_83 K k20 l v3 v4 r (d + 1) (nI j) M1 := by
    intro d
    induction d with
    | zero =>
      intro j M1 hj g1 g2
      have : j = 8 := by omega
      subst this
      exact ⟨fun h => (k M1 g1 g2).1 h, fun h => absurd (by decide) h⟩
    | succ d ih =>
      intro j M1 hj g1 g2
      have er : M1 r = M r := g1 r rne
      obtain ⟨x1, x2⟩ := hx j (by omega)
      refine ⟨fun h => absurd h (nI_ge (b := 8) (by omega) (by decide)), fun _ => ⟨by rw [hr]; exact vp_in_nI (by omega) (by decide), ?_⟩⟩
      rw [nI_clamp (by omega), er, hv4]
      refine s_nearest p0 p1 (by rw [x1]; exact x2) (fun y h1 h2 => ⟨by rw [z13]; exact vp_in_nI (by omega) (by decide), fun M34 e34 => ?_⟩)
      rw [e34, nI_1, ← hv4]
      exact ih (j + 1) _ (by omega) (fun a x => by rw [zput_ne x]; exact g1 a x) (fun i hi => by
          by_cases e : i = j
          · subst e; rw [zput_eq]; rw [x1] at h1; exact ⟨h1, h2⟩
          · rw [zput_n2 e]; exact g2 i (by omega))
  exact ⟨9, key 8 0 M (by omega) (fun _ _ => rfl) (fun i hi => by omega)⟩
theorem row_zdg {f : Nat → Int64} {n : Nat} (hn : n < 8) (h1 : (prP 8 f).1 n ≠ 0) (h2 : dl (n + 1) (prP 8 f)) : zdg f 8 = n + 1 := by
  have e1 : (prP 8 f).1 n = (f n).toInt := pr_lt hn
  rw [zdg_up (n := n + 1) (by omega) (fun i a b => by
    have := h2 i (by omega)
    have e2 : (prP 8 f).1 i = (f i).toInt := pr_lt b
    rw [e2] at this
    rw [← Int64.toInt_inj, this]; rfl)]
  show (if f n = 0 then zdg f n else n + 1) = _
  rw [if_neg (fun e => h1 (by rw [e1, e]; rfl))]
theorem red_cg {P : Nat} {f g : Nat → Int64} (h : ∀ i, i < 8 → (f i).toInt = (g i).toInt % P) : cg (P : Int) (prP 8 f) (prP 8 g) := cg_of (fun i => by
  show _ ∣ pr 8 f i - pr 8 g i
  rcases Nat.lt_or_ge i 8 with c | c
  · rw [pr_lt c, pr_lt c, h i c]; exact mod_dvd _ _
  · rw [pr_ge c, pr_ge c]; exact ⟨0, (Int.mul_zero _).symm⟩)
theorem okb_self {A : Pl} (h : okb A) (i : Nat) : ab (A.1 i) ≤ 100000000 := by
  have := h A (plX 1 0) (fun x => by rw [ev_X, Int.pow_zero]; grind) 0 (by show (1 : Int) ≠ 0; decide) (dl_X (by omega)) i
  have e : ab ((plX 1 0).1 0) = 1 := rfl
  rw [e, Int.mul_one] at this
  exact this
/-- G row by row as a quotient -/
theorem gok_pdiv {A G a : Pl} {f h : Nat → Int64} (hA : ∀ i, A.1 i = pr 8 f i) (hG : ∀ i, pr 8 h i = G.1 i) (e : ∀ x, ev A x = ev G x * ev a x) (b : ∀ i, ab (a.1 i) ≤ 100000000) (d8 : dl 8 a) : pdiv (pr 8 f) (pr 8 h) a.1 := by
  refine ⟨fun i => by have := b i; unfold ab at this; omega, d8, fun k => ?_⟩
  rw [← hA k]
  have e1 : A = plM a G := ev_ext (fun x => by rw [ev_M, e x, Int.mul_comm])
  rw [e1]
  exact pmul_congr (fun _ _ => rfl) (fun i _ => hG i)
theorem s_find20 {K : zM → Prop} {k20 : Int32 → zM → Prop} {M M1 : zM} {G a b : Pl} {n m g l s : Nat} (h : gok (prP 8 (M 11)) (prP 8 (M 12)) G a b n m g) (hl : l = Nat.gcd (zab (M 11 n)) (zab (M 12 m))) (hs : s < 9) (hfr : ∀ a, ¬ (13 ≤ a ∧ a ≤ 16) → M1 a = M a)
    (next : ∀ M2 : zM, (∀ a, ¬ (13 ≤ a ∧ a ≤ 16) → M2 a = M a) → (¬ ∀ D d, eg ((bigC.getD s 0 : Nat) : Int) (prP 8 (M 11)) (prP 8 (M 12)) D d → d = g) → k20 (nI s + 1) M2) (k : ∀ M' : zM, (∀ a, ¬ (13 ≤ a ∧ a ≤ 16) → M' a = M a) → (∀ i, i < 8 → (M' 13 i).toInt = G.1 i) → K M') : B_CD_findPrimitive_20 K (lN l) k20 (nI s) M1 := by
  have z11 : zlong 11 = 8 := by decide
  have z12 : zlong 12 = 8 := by decide
  have z13 : zlong 13 = 8 := by decide
  have z14 : zlong 14 = 8 := by decide
  have z15 : zlong 15 = 8 := by decide
  have z16 : zlong 16 = 8 := by decide
  obtain ⟨zs1, zs2⟩ := zlp_big s hs
  have hprm := bigC_p _ zs2
  obtain ⟨pl, ph⟩ := bigC_lo _ zs2
  obtain ⟨ld1, ld2, ⟨ka, ka1, ka2, ka3, ka4⟩, kb, kb1, kb2, kb3, kb4⟩ := gok_lead h
  obtain ⟨bb1, bb2, bb3, bb4⟩ := gok_b h
  obtain ⟨hz, A1, A2, B1, B2, G1, G2, n7, m7, oa, ob, la, lb, _, _⟩ := id h
  generalize bigC.getD s 0 = P at zs1 hprm pl ph next
  obtain ⟨q, rfl⟩ : ∃ q, P = q + 2 := ⟨P - 2, by omega⟩
  have va : ∀ i, i < 8 → (M 11 i).toInt.natAbs ≤ 100000000 := fun i hi => by
    have := okb_self oa i
    have e : (prP 8 (M 11)).1 i = (M 11 i).toInt := pr_lt hi
    rw [e] at this
    unfold ab at this
    omega
  have vb : ∀ i, i < 8 → (M 12 i).toInt.natAbs ≤ 100000000 := fun i hi => by
    have := okb_self ob i
    have e : (prP 8 (M 12)).1 i = (M 12 i).toInt := pr_lt hi
    rw [e] at this
    unfold ab at this
    omega
  have en : (prP 8 (M 11)).1 n = (M 11 n).toInt := pr_lt (by omega)
  have em : (prP 8 (M 12)).1 m = (M 12 m).toInt := pr_lt (by omega)
  have l0 : 0 < l := by
    rw [hl]
    refine Nat.gcd_pos_of_pos_left _ ?_
    unfold zab
    rw [en] at A1
    omega
  have lle : l ≤ 699993 := by
    have h1 : l ≤ zab (M 11 n) := by
      rw [hl]
      refine Nat.gcd_le_left _ ?_
      unfold zab
      rw [en] at A1
      omega
    rw [en] at la
    unfold ab at la
    unfold zab at h1
    omega
  have li : (lN l).toInt = (l : Int) := pk_lT (by omega)
  have e11 : M1 11 = M 11 := hfr 11 (by decide)
  have e12' : M1 12 = M 12 := hfr 12 (by decide)
  refine ⟨fun c => absurd c (nI_ge (b := 9) (by omega) (by decide)), fun _ => ⟨vp_in_nI hs (by decide), fun x12 ex => ?_⟩⟩
  rw [nI_clamp (by omega), zs1] at ex
  subst ex
  refine s_reduceInto z11 z14 (by omega) ph (fun i hi => by rw [e11]; have := va i hi; omega) (fun Ma f1 f2 => ?_)
  refine s_reduceInto z12 z15 (by omega) ph (fun i hi => by rw [f1 12 (by decide), e12']; have := vb i hi; omega) (fun Mb f3 f4 => ?_)
  have v14 : ∀ i, i < 8 → (Mb 14 i).toInt = (M 11 i).toInt % (q + 2 : Nat) := fun i hi => by rw [f3 14 (by decide), f2 i hi, e11]
  have v15 : ∀ i, i < 8 → (Mb 15 i).toInt = (M 12 i).toInt % (q + 2 : Nat) := fun i hi => by rw [f4 i hi, f1 12 (by decide), e12']
  have ndA : ¬ ((q + 2 : Nat) : Int) ∣ (prP 8 (M 11)).1 n := big_nd pl A1 la
  have ndB : ¬ ((q + 2 : Nat) : Int) ∣ (prP 8 (M 12)).1 m := big_nd pl B1 lb
  refine s_commonOf z14 z15 z16 (by decide) (by decide) (by decide) hprm ph (fun i hi => by rw [v14 i hi]; exact z_emod (by omega) _) (fun i hi => by rw [v15 i hi]; exact z_emod (by omega) _) (fun c => ?_) (fun r d Mc hr hd f5 f6 f7 hE0 => ?_)
  · have := zdg_0 c n (by omega)
    have e := v14 n (by omega)
    rw [this] at e
    rw [en] at ndA
    exact ndA (Int.dvd_of_emod_eq_zero e.symm)
  have hE : eg ((q + 2 : Nat) : Int) (prP 8 (M 11)) (prP 8 (M 12)) (prP 8 (Mc r)) d := eg_cg hE0 (red_cg v14) (red_cg v15)
  have hr8 : zlong r = 8 := by rcases hr with e | e <;> rw [e] <;> assumption
  have mtG : mt ((q + 2 : Nat) : Int) G g := mt_of (fun c => ndA (by rw [← ka4]; exact Int.dvd_mul_of_dvd_left c)) G2
  obtain ⟨w, _, t, _, htd⟩ := eg_ge hprm hz mtG hE
  have fMc : ∀ a, ¬ (13 ≤ a ∧ a ≤ 16) → Mc a = M a := fun a ha => by
    rw [f5 a (by omega) (by omega) (by omega), f3 a (by omega), f1 a (by omega)]
    exact hfr a ha
  refine s_find83 (P := q + 2) hr8 (by rcases hr with e | e <;> rw [e] <;> decide) (by omega) ph rfl (fun i hi => ?_) (fun Md f8 f9 => ⟨fun _ => ?_, fun c => absurd (by decide) c⟩)
  · have hx := f6 i hi
    have c1 : 0 ≤ (Mc r i).toInt * (l : Int) := Int.mul_nonneg hx.1 (by omega)
    have c2 : (Mc r i).toInt * (l : Int) ≤ 2147483647 * 699993 := Int.mul_le_mul (by omega) (by omega) (by omega) (by omega)
    rw [li]
    exact ⟨by rw [zx_mul (by rw [li]; omega) (by rw [li]; omega), li], by omega⟩
  have eD : ∀ i, i < 8 → (prP 8 (Mc r)).1 i = (Mc r i).toInt := fun i hi => pr_lt hi
  have yd : (Md 13 d).toInt = l := by
    obtain ⟨c1, c2⟩ := f9 d hd
    have e := hE.2.1
    rw [eD d hd] at e
    rw [e, li, Int.one_mul] at c1
    refine near_eq c1 ?_
    unfold ab at c2 ⊢
    omega
  have yz : ∀ i, d < i → i < 8 → (Md 13 i).toInt = 0 := fun i a1 a2 => by
    obtain ⟨c1, c2⟩ := f9 i a2
    have e := hE.1 i (by omega)
    rw [eD i a2] at e
    rw [e, Int.zero_mul] at c1
    refine near_eq c1 ?_
    unfold ab at c2 ⊢
    omega
  have zd13 : zdg (Md 13) 8 = d + 1 := by
    refine row_zdg hd ?_ (fun i hi => ?_)
    · have e : (prP 8 (Md 13)).1 d = (Md 13 d).toInt := pr_lt hd
      rw [e, yd]; omega
    · show pr 8 (Md 13) i = 0
      rcases Nat.lt_or_ge i 8 with c | c
      · rw [pr_lt c]; exact yz i (by omega) c
      · exact pr_ge c
  refine s_makePrimitive z13 (fun i hi => by have := (f9 i hi).2; unfold ab at this; unfold zab; omega) zd13 (fun rr Me f10 f11 f12 f13 f14 => ?_)
  have rr0 : rr.toInt ≠ 0 := fun c => by
    have := f12 d hd
    rw [c, Int.zero_mul, yd] at this
    omega
  have Fd : (prP 8 (Me 13)).1 d = (Me 13 d).toInt := pr_lt hd
  have Fdl : dl (d + 1) (prP 8 (Me 13)) := fun i hi => by
    show pr 8 (Me 13) i = 0
    rcases Nat.lt_or_ge i 8 with c | c
    · rw [pr_lt c]
      have := f12 i c
      rw [yz i (by omega) c] at this
      rcases Int.mul_eq_zero.mp this.symm with e | e
      · exact absurd e rr0
      · exact e
    · exact pr_ge c
  have zF : zdg (Me 13) 8 = d + 1 := row_zdg hd (by rw [Fd]; omega) Fdl
  have fMe : ∀ a, ¬ (13 ≤ a ∧ a ≤ 16) → Me a = M a := fun a ha => by
    rw [f10 a (by omega), f8 a (by omega)]
    exact fMc a ha
  -- where the prime is good the row is G
  have hgood : (∀ D d, eg ((q + 2 : Nat) : Int) (prP 8 (M 11)) (prP 8 (M 12)) D d → d = g) → d = g ∧ ∀ i, (prP 8 (Me 13)).1 i = G.1 i := fun hg => by
    have dg := hg _ _ hE
    subst dg
    refine ⟨rfl, ?_⟩
    have ldl : G.1 d ∣ (l : Int) := by
      have d1 : (G.1 d).natAbs ∣ l := by
        rw [hl]
        refine Nat.dvd_gcd ?_ ?_
        · unfold zab; rw [← en]; exact Int.natAbs_dvd_natAbs.mpr ld1
        · unfold zab; rw [← em]; exact Int.natAbs_dvd_natAbs.mpr ld2
      exact Int.natAbs_dvd.mp (Int.ofNat_dvd.mpr d1)
    obtain ⟨l', hl'⟩ := ldl
    have l'0 : 0 < l' := by
      rcases Int.lt_trichotomy l' 0 with c | c | c
      · exfalso
        have := Int.mul_neg_of_pos_of_neg G1 c
        omega
      · rw [c, Int.mul_zero] at hl'; omega
      · exact c
    have lA : (l : Int) ∣ (prP 8 (M 11)).1 n := by
      rw [en]
      have : l ∣ zab (M 11 n) := by rw [hl]; exact Nat.gcd_dvd_left _ _
      exact Int.dvd_natAbs.mp (Int.ofNat_dvd.mpr this)
    have yG : ∀ i, i < 8 → (Md 13 i).toInt = l' * G.1 i := fun i hi => by
      obtain ⟨c1, c2⟩ := f9 i hi
      have c3 := eg_same hprm hz mtG hE i
      rw [eD i hi] at c3
      have c4 : ((q + 2 : Nat) : Int) ∣ (Md 13 i).toInt - l' * G.1 i := by
        obtain ⟨y, hy⟩ := c1
        obtain ⟨z, hz'⟩ := c3
        rw [li, hl'] at hy
        exact ⟨y - l' * z, by grind⟩
      have c5 := bb1 l'.toNat i (by rw [Int.toNat_of_nonneg (by omega), ← hl']; exact lA)
      rw [Int.toNat_of_nonneg (by omega)] at c5
      refine near_eq c4 ?_
      unfold ab at c2 c5 ⊢
      omega
    refine prim_uniq (r := rr.toInt) (s := l') f14 hz.1 rr0 (by rw [Fd]; exact f13) Fdl G1 G2 (fun i => ?_)
    rcases Nat.lt_or_ge i 8 with c | c
    · have e : (prP 8 (Me 13)).1 i = (Me 13 i).toInt := pr_lt c
      rw [e, ← f12 i c]
      exact yG i c
    · have e : (prP 8 (Me 13)).1 i = 0 := pr_ge c
      rw [e, G2 i (by omega), Int.mul_zero, Int.mul_zero]
  have e11e : Me 11 = M 11 := fMe 11 (by decide)
  have e12e : Me 12 = M 12 := fMe 12 (by decide)
  have wid : (∀ D d, eg ((q + 2 : Nat) : Int) (prP 8 (M 11)) (prP 8 (M 12)) D d → d = g) → zwid (Me 13) 8 := fun hg i hi => by
    have e : (prP 8 (Me 13)).1 i = (Me 13 i).toInt := pr_lt hi
    have := bb2 i
    rw [← (hgood hg).2 i, e] at this
    unfold ab at this
    omega
  refine s_findQuotient z11 z13 z14 z15 (by decide) (by decide) (by decide) (by decide) (fun i hi => by rw [e11e]; have := va i hi; omega) (fun hb => ⟨fun _ => next Me fMe (fun hg => ?_), fun c => absurd rfl c⟩) (fun _ hw M26 f15 hq1 => ⟨fun c => absurd c (by decide), fun _ => ?_⟩) (fun _ _ M26 f15 hno => ⟨fun _ => next M26 (fun a ha => by rw [f15 a (by omega) (by omega)]; exact fMe a ha) (fun hg => hno ?_), fun c => absurd rfl c⟩)
  · rcases hb with c | c
    · omega
    · exact c (wid hg)
  · have e11f : M26 11 = M 11 := by rw [f15 11 (by decide) (by decide)]; exact e11e
    have e12f : M26 12 = M 12 := by rw [f15 12 (by decide) (by decide)]; exact e12e
    have e13f : M26 13 = Me 13 := f15 13 (by decide) (by decide)
    have f26 : ∀ a, ¬ (13 ≤ a ∧ a ≤ 16) → M26 a = M a := fun a ha => by rw [f15 a (by omega) (by omega)]; exact fMe a ha
    refine s_findQuotient z12 z13 z14 z15 (by decide) (by decide) (by decide) (by decide) (fun i hi => by rw [e12f]; have := vb i hi; omega) (fun hb => ⟨fun _ => next M26 f26 (fun hg => ?_), fun c => absurd rfl c⟩) (fun _ hw2 M29 f16 hq2 => ⟨fun c => absurd c (by decide), fun _ => ?_⟩) (fun _ _ M29 f16 hno => ⟨fun _ => next M29 (fun a ha => by rw [f16 a (by omega) (by omega)]; exact f26 a ha) (fun hg => hno ?_), fun c => absurd rfl c⟩)
    · rw [e13f] at hb
      rcases hb with c | c
      · omega
      · exact c (wid hg)
    · refine k M29 (fun a ha => by rw [f16 a (by omega) (by omega)]; exact f26 a ha) (fun i hi => ?_)
      rw [f16 13 (by decide) (by decide), e13f]
      rw [e11e] at hq1
      rw [e12f, e13f] at hq2
      have := gz_uniq hz G1 G2 f14 (by rw [Fd]; exact f13) Fdl (by omega) ⟨_, fun x => z_pdiv_ev hq1 x⟩ ⟨_, fun x => z_pdiv_ev hq2 x⟩ i
      have e : (prP 8 (Me 13)).1 i = (Me 13 i).toInt := pr_lt hi
      rw [← e]; exact this
    · rw [e12f, e13f]
      exact ⟨b.1, gok_pdiv (A := prP 8 (M 12)) (G := G) (fun _ => rfl) (fun i => (hgood hg).2 i) hz.2.2.1 bb4 (dl_mono (by omega) kb2)⟩
  · rw [e11e]
    exact ⟨a.1, gok_pdiv (A := prP 8 (M 11)) (G := G) (fun _ => rfl) (fun i => (hgood hg).2 i) hz.2.1 bb3 (dl_mono (by omega) ka2)⟩
theorem s_findPrimitive {K : zM → Prop} {M : zM} {G a b : Pl} {n m g : Nat} (h : gok (prP 8 (M 11)) (prP 8 (M 12)) G a b n m g) (k : ∀ M' : zM, (∀ a, ¬ (13 ≤ a ∧ a ≤ 16) → M' a = M a) → (∀ i, i < 8 → (M' 13 i).toInt = G.1 i) → K M') : w_CD_findPrimitive M K := by
  obtain ⟨hz, A1, A2, B1, B2, G1, G2, n7, m7, oa, ob, la, lb, hC, _⟩ := id h
  have en : (prP 8 (M 11)).1 n = (M 11 n).toInt := pr_lt (by omega)
  have em : (prP 8 (M 12)).1 m = (M 12 m).toInt := pr_lt (by omega)
  obtain ⟨_, _, p, hp1, hp2⟩ := gok_good h bigC_p bigC_lo bigC_d hC
  obtain ⟨t0, ht0, et0⟩ := bigC_ix p hp1
  refine s_leadingOf (by decide) (row_zdg (by omega) A1 A2) (s_leadingOf (by decide) (row_zdg (by omega) B1 B2) (s_Ro_greatestDivisor ?_ ?_ ?_))
  · rw [en] at la; unfold ab at la; unfold zab; omega
  · rw [em] at lb; unfold ab at lb; unfold zab; omega
  have key : ∀ e s (M1 : zM), s + e = t0 → (∀ a, ¬ (13 ≤ a ∧ a ≤ 16) → M1 a = M a) → L_CD_findPrimitive_20 K (lN (Nat.gcd (zab (M 11 n)) (zab (M 12 m)))) (e + 1) (nI s) M1 := by
    intro e
    induction e with
    | zero =>
      intro s M1 hs hfr
      have : s = t0 := by omega
      subst this
      exact s_find20 h rfl ht0 hfr (fun M2 _ hn => absurd (by rw [et0]; exact hp2) hn) k
    | succ e ih =>
      intro s M1 hs hfr
      exact s_find20 h rfl (by omega) hfr (fun M2 f2 _ => by rw [nI_1]; exact ih (s + 1) M2 (by omega) f2) k
  exact ⟨t0 + 1, key t0 0 M (by omega) (fun _ _ => rfl)⟩
