/-! The reference's share. -/
theorem z_pdiv_ev16 {f g h : Nat → Int64} (hp : pdiv (pr 16 f) (pr 16 g) (pr 16 h)) (x : Int) : ev (prP 16 f) x = ev (prP 16 g) x * ev (prP 16 h) x := by
  have e : prP 16 f = plM (prP 16 h) (prP 16 g) := pl_ext (fun i => (hp.2.2 i).symm)
  rw [e, ev_M, Int.mul_comm]
theorem row_zdg16 {f : Nat → Int64} {n : Nat} (hn : n < 16) (h1 : (prP 16 f).1 n ≠ 0) (h2 : dl (n + 1) (prP 16 f)) : zdg f 16 = n + 1 := by
  have e1 : (prP 16 f).1 n = (f n).toInt := pr_lt hn
  rw [zdg_up (n := n + 1) (by omega) (fun i a b => by
    have := h2 i (by omega)
    have e2 : (prP 16 f).1 i = (f i).toInt := pr_lt b
    rw [e2] at this
    rw [← Int64.toInt_inj, this]; rfl)]
  show (if f n = 0 then zdg f n else n + 1) = _
  rw [if_neg (fun e => h1 (by rw [e1, e]; rfl))]
theorem zgc_prim16 {f : Nat → Int64} (h : zgc f 16 = 1) : prim (prP 16 f) := by
  intro d hd
  have : d.natAbs ∣ zgc f 16 := zgc_max (fun i hi => by
    have e : (prP 16 f).1 i = (f i).toInt := pr_lt hi
    have := hd i
    rw [e] at this
    exact Int.natAbs_dvd_natAbs.mpr this)
  rw [h] at this
  exact Nat.dvd_one.mp this
theorem prim_zgc16 {f : Nat → Int64} (h : prim (prP 16 f)) : zgc f 16 = 1 := by
  have := h (zgc f 16 : Int) (fun i => by
    show (zgc f 16 : Int) ∣ pr 16 f i
    rcases Nat.lt_or_ge i 16 with c | c
    · rw [pr_lt c]
      exact Int.dvd_natAbs.mp (Int.ofNat_dvd.mpr (zgc_dvd (f := f) c))
    · rw [pr_ge c]; exact ⟨0, (Int.mul_zero _).symm⟩)
  omega
theorem gok_pdiv16 {A G a : Pl} {f h : Nat → Int64} (hA : ∀ i, A.1 i = pr 16 f i) (hG : ∀ i, pr 16 h i = G.1 i) (e : ∀ x, ev A x = ev G x * ev a x) (b : ∀ i, ab (a.1 i) ≤ 100000000) (d8 : dl 8 a) : pdiv (pr 16 f) (pr 16 h) a.1 := by
  refine ⟨fun i => by have := b i; unfold ab at this; omega, d8, fun k => ?_⟩
  rw [← hA k]
  have e1 : A = plM a G := ev_ext (fun x => by rw [ev_M, e x, Int.mul_comm])
  rw [e1]
  exact pmul_congr (fun _ _ => rfl) (fun i _ => hG i)
/-- what passes is G -/
theorem cnd_pass {A B G a b : Pl} {n m g l d P : Nat} {x c f6 f7 : Nat → Int64} (h : gok A B G a b n m g) (hA : A = prP 16 f6) (hB : B = prP 16 f7) (hd : d < 16) (l0 : 0 < l) (hgd : g ≤ d) (hc : cnd P x l d c) (h1 : zgc c 16 = 1) (q6 : ∃ q : Nat → Int64, pdiv (pr 16 f6) (pr 16 c) (pr 16 q)) (q7 : ∃ q : Nat → Int64, pdiv (pr 16 f7) (pr 16 c) (pr 16 q)) : ∀ i, i < 16 → (c i).toInt = G.1 i := fun i hi => by
  obtain ⟨hz, A1, A2, B1, B2, G1, G2, _⟩ := id h
  obtain ⟨q, hq⟩ := q6
  obtain ⟨r, hr⟩ := q7
  have e : (prP 16 c).1 i = (c i).toInt := pr_lt hi
  have ed : (prP 16 c).1 d = (c d).toInt := pr_lt hd
  rw [← e]
  refine gz_uniq (f := d) hz G1 G2 (zgc_prim16 h1) (by rw [ed, hc.2.1]; omega) (fun j hj => ?_) hgd ⟨_, fun x => by rw [hA]; exact z_pdiv_ev16 hq x⟩ ⟨_, fun x => by rw [hB]; exact z_pdiv_ev16 hr x⟩ i
  show pr 16 c j = 0
  rcases Nat.lt_or_ge j 16 with g | g
  · rw [pr_lt g, hc.2.2 j (by omega) g]; rfl
  · exact pr_ge g
/-- at a good prime the candidate with G's own leading number passes -/
theorem cnd_good {A B G a b : Pl} {n m g l P : Nat} {x c f6 f7 : Nat → Int64} (h : gok A B G a b n m g) (hA : A = prP 16 f6) (hB : B = prP 16 f7) (hp : prm (P : Int)) (hP : 1000000000 ≤ P) (hE : eg (P : Int) A B (prP 16 x) g) (hl : (l : Int) = G.1 g) (hc : cnd P x l g c) : zgc c 16 = 1 ∧ (∃ q, pdiv (pr 16 f6) (pr 16 c) q) ∧ ∃ q, pdiv (pr 16 f7) (pr 16 c) q := by
  obtain ⟨ld1, ld2, ⟨ka, ka1, ka2, ka3, ka4⟩, kb, kb1, kb2, kb3, kb4⟩ := gok_lead h
  obtain ⟨bb1, bb2, bb3, bb4⟩ := gok_b h
  obtain ⟨hz, A1, A2, B1, B2, G1, G2, n7, m7, oa, ob, la, lb, _, _⟩ := id h
  have mtG : mt (P : Int) G g := mt_of (fun d => big_nd hP A1 la (by rw [← ka4]; exact Int.dvd_mul_of_dvd_left d)) G2
  have eq : ∀ i, pr 16 c i = G.1 i := fun i => by
    rcases Nat.lt_or_ge i 16 with c16 | c16
    · rw [pr_lt c16]
      rcases Nat.lt_trichotomy i g with q | q | q
      · obtain ⟨c1, c2⟩ := hc.1 i q
        have c3 := eg_same hp hz mtG hE i
        have e : (prP 16 x).1 i = (x i).toInt := pr_lt c16
        rw [e] at c3
        have c4 : (P : Int) ∣ (c i).toInt - G.1 i := by
          obtain ⟨y, hy⟩ := c1
          obtain ⟨z, hz'⟩ := c3
          rw [hl] at hy
          exact ⟨y - z, by grind⟩
        have c5 := bb2 i
        refine near_eq c4 ?_
        unfold ab at c2 c5 ⊢
        omega
      · subst q
        rw [hc.2.1, hl]
      · rw [hc.2.2 i q c16, G2 i (by omega)]; rfl
    · rw [pr_ge c16, G2 i (by omega)]
  have hpc : prP 16 c = G := pl_ext eq
  refine ⟨prim_zgc16 (by rw [hpc]; exact hz.1), ⟨a.1, ?_⟩, ⟨b.1, ?_⟩⟩
  · exact gok_pdiv16 (A := A) (G := G) (fun i => by rw [hA]; rfl) eq hz.2.1 bb3 (dl_mono (by omega) ka2)
  · exact gok_pdiv16 (A := B) (G := G) (fun i => by rw [hB]; rfl) eq hz.2.2.1 bb4 (dl_mono (by omega) kb2)
theorem s_Mo_copyG {K : zM → Prop} {M : zM} {N : zN} (k : ∀ M' : zM, (∀ a, a ≠ 113 → M' a = M a) → (∀ i, i < 16 → M' 113 i = M 117 i) → K M') : J_Mo_share_143 K M N := s_Mo_copy (by decide) (by decide) (by decide) (fun M' f1 f2 => k M' f1 f2)
theorem s_share53 {K : zM → Prop} {k22 : Int32 → Int32 → zM → Prop} {a1 a2 : Nat} {N : zN} {M : zM} {G a b : Pl} {n m g L t d P : Nat} (ha1 : zlong a1 = 16) (ha2 : zlong a2 = 16) (r6 : a1 ≠ 117 ∧ a1 ≠ 110 ∧ a1 ≠ 109) (r7 : a2 ≠ 117 ∧ a2 ≠ 110 ∧ a2 ≠ 109) (h : gok (prP 16 (M a1)) (prP 16 (M a2)) G a b n m g) (hL : L = Nat.gcd (zab (M a1 n)) (zab (M a2 m))) (hN : N 118 t = nI P) (ht : t < 10) (hp : prm (P : Int)) (p0 : 1000000000 ≤ P) (p1 : P ≤ 2000000000) (hd : d < 16) (hx : zrw P 16 (M 111)) (hE : eg (P : Int) (prP 16 (M a1)) (prP 16 (M a2)) (prP 16 (M 111)) d)
    (yes : ∀ M' : zM, (∀ a, a ≠ 117 → a ≠ 110 → a ≠ 109 → M' a = M a) → (∀ i, i < 16 → (M' 117 i).toInt = G.1 i) → k22 1 (nI (t + 1)) M')
    (no : ∀ M' : zM, (∀ a, a ≠ 117 → a ≠ 110 → a ≠ 109 → M' a = M a) → (¬ ∀ D d, eg (P : Int) (prP 16 (M a1)) (prP 16 (M a2)) D d → d = g) → k22 0 (nI (t + 1)) M') : ∃ f, L_Mo_share_53 K k22 a1 a2 (lN L) (nI t) (nI d) N f 0 1 M := by
  obtain ⟨ld1, ld2, ⟨ka, ka1, ka2, ka3, ka4⟩, kb, kb1, kb2, kb3, kb4⟩ := gok_lead h
  obtain ⟨hz, A1, A2, B1, B2, G1, G2, n7, m7, oa, ob, la, lb, _, _⟩ := id h
  have en : (prP 16 (M a1)).1 n = (M a1 n).toInt := pr_lt (by omega)
  have em : (prP 16 (M a2)).1 m = (M a2 m).toInt := pr_lt (by omega)
  have l0 : 0 < L := by
    rw [hL]
    refine Nat.gcd_pos_of_pos_left _ ?_
    unfold zab
    rw [en] at A1
    omega
  have lle : L ≤ 699993 := by
    have h1 : L ≤ zab (M a1 n) := by
      rw [hL]
      refine Nat.gcd_le_left _ ?_
      unfold zab
      rw [en] at A1
      omega
    rw [en] at la
    unfold ab at la
    unfold zab at h1
    omega
  have b6 : ∀ i, i < 16 → (M a1 i).toInt.natAbs ≤ 100000000000000000 := fun i hi => by
    have := okb_self oa i
    have e : (prP 16 (M a1)).1 i = (M a1 i).toInt := pr_lt hi
    rw [e] at this
    unfold ab at this
    omega
  have b7 : ∀ i, i < 16 → (M a2 i).toInt.natAbs ≤ 100000000000000000 := fun i hi => by
    have := okb_self ob i
    have e : (prP 16 (M a2)).1 i = (M a2 i).toInt := pr_lt hi
    rw [e] at this
    unfold ab at this
    omega
  have d6 : zdg (M a1) 16 ≤ 8 := by rw [row_zdg16 (by omega) A1 A2]; omega
  have d7 : zdg (M a2) 16 ≤ 8 := by rw [row_zdg16 (by omega) B1 B2]; omega
  have ndA : ¬ (P : Int) ∣ (prP 16 (M a1)).1 n := big_nd p0 A1 la
  have mtG : mt (P : Int) G g := mt_of (fun c => ndA (by rw [← ka4]; exact Int.dvd_mul_of_dvd_left c)) G2
  obtain ⟨w, _, t', _, htd⟩ := eg_ge hp hz mtG hE
  have gL : ∃ lg : Nat, (lg : Int) = G.1 g ∧ 0 < lg ∧ lg ∣ L := by
    refine ⟨(G.1 g).natAbs, by omega, by omega, ?_⟩
    rw [hL]
    refine Nat.dvd_gcd ?_ ?_
    · unfold zab; rw [← en]; exact Int.natAbs_dvd_natAbs.mpr ld1
    · unfold zab; rw [← em]; exact Int.natAbs_dvd_natAbs.mpr ld2
  obtain ⟨lg, lg1, lg2, lg3⟩ := gL
  have e118 : (N 118 (nI t).toNatClampNeg).toInt64 = lN P := by rw [nI_clamp (by omega), hN, nI_l (by omega)]
  have fin : ∀ (f k : Nat) (M1 : zM), (∀ a, a ≠ 117 → a ≠ 110 → a ≠ 109 → M1 a = M a) → (∀ i, i < 16 → (M1 117 i).toInt = G.1 i) → L_Mo_share_53 K k22 a1 a2 (lN L) (nI t) (nI d) N (f + 1) 1 (lN k) M1 := fun f k M1 f1 f2 => by
    have := yes M1 f1 f2
    rw [← nI_1] at this
    exact ⟨fun _ => this, fun _ => ⟨fun _ => this, fun c => absurd c (by decide)⟩⟩
  have key : ∀ e k (M1 : zM), k + e = 1001 → 1 ≤ k → (∀ a, a ≠ 117 → a ≠ 110 → a ≠ 109 → M1 a = M a) → ((∀ D d, eg (P : Int) (prP 16 (M a1)) (prP 16 (M a2)) D d → d = g) → ∀ j, j < k → j ∣ L → j ≠ lg ∧ L / j ≠ lg) → L_Mo_share_53 K k22 a1 a2 (lN L) (nI t) (nI d) N (e + 2) 0 (lN k) M1 := by
    intro e
    induction e with
    | zero =>
      intro k M1 hk k1 f1 hI
      have hkk : lN k * lN k = lN (k * k) := lN_mul k k
      have hk2 : k = 1001 := by omega
      subst hk2
      refine ⟨fun _ => ?_, fun c => absurd ?_ c⟩
      · rw [nI_1]
        refine no M1 f1 (fun hg => ?_)
        -- one of lg and L / lg has been tried
        obtain ⟨y, hy⟩ := lg3
        by_cases c : lg < 1001
        · exact (hI hg lg c ⟨y, hy⟩).1 rfl
        · have hy2 : y < 1001 := by
            rcases Nat.lt_or_ge y 1001 with q | q
            · exact q
            · have := Nat.mul_le_mul (show 1001 ≤ lg by omega) q
              omega
          have y0 : 0 < y := by
            rcases Nat.eq_zero_or_pos y with q | q
            · rw [q, Nat.mul_zero] at hy; omega
            · exact q
          exact (hI hg y hy2 ⟨lg, by rw [hy, Nat.mul_comm]⟩).2 (by rw [hy, Nat.mul_div_cancel _ y0])
      · rw [hkk, pk_lLT (by omega) (by decide)]
        omega
    | succ e ih =>
      intro k M1 hk k1 f1 hI
      have hkk : lN k * lN k = lN (k * k) := lN_mul k k
      have hkb : k * k ≤ 1001 * 1001 := Nat.mul_le_mul (by omega) (by omega)
      have kne : ¬ lN k = 0 := fun c => by
        have := (pk_lEQ (a := k) (b := 0) (by omega) (by decide)).mp c
        omega
      refine ⟨fun c => ?_, fun c => ⟨fun q => absurd rfl q, fun _ => ⟨kne, fun c2 x16 e16 => ?_, fun c2 => ?_⟩⟩⟩
      · rw [hkk, pk_lLT (by omega) (by omega)] at c
        rw [nI_1]
        refine no M1 f1 (fun hg => ?_)
        obtain ⟨y, hy⟩ := lg3
        by_cases c3 : lg < k
        · exact (hI hg lg c3 ⟨y, hy⟩).1 rfl
        · have hy2 : y < k := by
            rcases Nat.lt_or_ge y k with q | q
            · exact q
            · have := Nat.mul_le_mul (show k ≤ lg by omega) q
              omega
          have y0 : 0 < y := by
            rcases Nat.eq_zero_or_pos y with q | q
            · rw [q, Nat.mul_zero] at hy; omega
            · exact q
          exact (hI hg y hy2 ⟨lg, by rw [hy, Nat.mul_comm]⟩).2 (by rw [hy, Nat.mul_div_cancel _ y0])
      · rw [e16, lN_1]
        refine ih (k + 1) M1 (by omega) (by omega) f1 (fun hg j hj hjl => ?_)
        by_cases ej : j = k
        · exfalso
          subst ej
          have hrem := pk_lRem (a := L) (b := j) (by omega) (by omega) (by omega)
          rw [hrem] at c2
          exact c2 (by rw [Nat.mod_eq_zero_of_dvd hjl]; rfl)
        · exact hI hg j (by omega) hjl
      · have hrem := pk_lRem (a := L) (b := k) (by omega) (by omega) (by omega)
        rw [hrem] at c2
        have hmod : L % k = 0 := by
          have hlt : L % k < k := Nat.mod_lt _ (by omega)
          exact (pk_lEQ (a := L % k) (b := 0) (by omega) (by decide)).mp c2
        have hkl : k ∣ L := Nat.dvd_of_mod_eq_zero hmod
        have hkle : k ≤ L := Nat.le_of_dvd l0 hkl
        have hq0 : 0 < L / k := Nat.div_pos hkle (by omega)
        have hql : L / k ≤ L := Nat.div_le_self _ _
        refine ⟨by exact vp_in_nI (N := 10) ht (by decide), ?_⟩
        rw [e118]
        have u1 : M1 111 = M 111 := f1 111 (by decide) (by decide) (by decide)
        have ua1 : M1 a1 = M a1 := f1 a1 r6.1 r6.2.1 r6.2.2
        have ua2 : M1 a2 = M a2 := f1 a2 r7.1 r7.2.1 r7.2.2
        have hgf : ∀ (l : Nat) (c : Nat → Int64), cnd P (M 111) l d c → (zgc c 16 = 1 → (∃ q, pdiv (pr 16 (M a1)) (pr 16 c) q) → (∃ q, pdiv (pr 16 (M a2)) (pr 16 c) q) → False) → (∀ D d, eg (P : Int) (prP 16 (M a1)) (prP 16 (M a2)) D d → d = g) → l ≠ lg := fun l c hc hf hg el => by
          have dg := hg _ _ hE
          subst dg
          obtain ⟨z1, z2, z3⟩ := cnd_good h rfl rfl hp p0 hE (by rw [el]; exact lg1) hc
          exact hf z1 z2 z3
        refine s_Mo_isShared ha1 ha2 r6 r7 hd (by omega) p1 (by omega) (by omega) (fun i hi => by rw [u1]; exact hx i (by omega)) (by rw [ua1]; exact d6) (by rw [ua2]; exact d7) (fun i hi => by rw [ua1]; exact b6 i hi) (fun i hi => by rw [ua2]; exact b7 i hi) (fun M2 f2 hc hg1 q6 q7 => ⟨fun _ x20 e20 => ?_, fun c => absurd c (by decide)⟩) (fun M2 f2 hc hf => ⟨fun c => absurd rfl c, fun _ => ⟨kne, by exact vp_in_nI (N := 10) ht (by decide), ?_⟩⟩)
        · rw [e20, lN_1]
          rw [ua1] at q6
          rw [ua2] at q7
          rw [u1] at hc
          exact fin (e + 1) (k + 1) M2 (fun a x y z => by rw [f2 a x y z]; exact f1 a x y z) (cnd_pass h rfl rfl hd (by omega) (by omega) hc hg1 q6 q7)
        · rw [pk_lDiv (by omega) (by omega) (by omega)]
          rw [u1] at hc
          rw [ua1, ua2] at hf
          have f12 : ∀ a, a ≠ 117 → a ≠ 110 → a ≠ 109 → M2 a = M a := fun a x y z => by rw [f2 a x y z]; exact f1 a x y z
          have w1 : M2 111 = M 111 := f12 111 (by decide) (by decide) (by decide)
          have wa1 : M2 a1 = M a1 := f12 a1 r6.1 r6.2.1 r6.2.2
          have wa2 : M2 a2 = M a2 := f12 a2 r7.1 r7.2.1 r7.2.2
          refine s_Mo_isShared ha1 ha2 r6 r7 hd (by omega) p1 hq0 (by omega) (fun i hi => by rw [w1]; exact hx i (by omega)) (by rw [wa1]; exact d6) (by rw [wa2]; exact d7) (fun i hi => by rw [wa1]; exact b6 i hi) (fun i hi => by rw [wa2]; exact b7 i hi) (fun M3 f3 hc3 hg1 q6 q7 => ⟨fun c => absurd c (by decide), fun _ x25 e25 => ?_⟩) (fun M3 f3 hc3 hf3 => ⟨fun _ x24 e24 => ?_, fun c => absurd rfl c⟩)
          · rw [e25, lN_1]
            rw [wa1] at q6
            rw [wa2] at q7
            rw [w1] at hc3
            exact fin (e + 1) (k + 1) M3 (fun a x y z => by rw [f3 a x y z]; exact f12 a x y z) (cnd_pass h rfl rfl hd hq0 (by omega) hc3 hg1 q6 q7)
          · rw [e24, lN_1]
            rw [w1] at hc3
            rw [wa1, wa2] at hf3
            refine ih (k + 1) M3 (by omega) (by omega) (fun a x y z => by rw [f3 a x y z]; exact f12 a x y z) (fun hg j hj hjl => ?_)
            by_cases ej : j = k
            · subst ej
              exact ⟨hgf j _ hc hf hg, hgf (L / j) _ hc3 hf3 hg⟩
            · exact hI hg j (by omega) hjl
  exact ⟨1002, key 1000 1 M (by decide) (by decide) (fun _ _ _ _ => rfl) (fun _ j hj hjl => by
    have : j = 0 := by omega
    rw [this] at hjl
    have := Nat.eq_zero_of_zero_dvd hjl
    omega)⟩
theorem s_Mo_share {K : zM → Prop} {a1 a2 : Nat} {N : zN} {M : zM} {G a b : Pl} {n m g : Nat} (ha1 : zlong a1 = 16) (ha2 : zlong a2 = 16) (r6 : ¬ (109 ≤ a1 ∧ a1 ≤ 113) ∧ a1 ≠ 117) (r7 : ¬ (109 ≤ a2 ∧ a2 ≤ 113) ∧ a2 ≠ 117) (hN : zgr N) (h : gok (prP 16 (M a1)) (prP 16 (M a2)) G a b n m g)
    (k : ∀ M' : zM, (∀ a, ¬ (109 ≤ a ∧ a ≤ 113) → a ≠ 117 → M' a = M a) → (∀ i, i < 16 → (M' 113 i).toInt = G.1 i) → K M') : w_Mo_share a1 a2 M N K := by
  obtain ⟨hz, A1, A2, B1, B2, G1, G2, n7, m7, oa, ob, la, lb, _, hM⟩ := id h
  have en : (prP 16 (M a1)).1 n = (M a1 n).toInt := pr_lt (by omega)
  have em : (prP 16 (M a2)).1 m = (M a2 m).toInt := pr_lt (by omega)
  obtain ⟨_, _, p, hp1, hp2⟩ := gok_good h bigM_p bigM_lo bigM_d hM
  obtain ⟨t0, ht0, et0⟩ := bigM_ix p hp1
  refine s_Mo_degreeOf ha1 ?_
  rw [row_zdg16 (by omega) A1 A2, pk_m1]
  refine ⟨by rw [ha1]; exact vp_in_nI (by omega) (by decide), s_Mo_degreeOf ha2 ?_⟩
  rw [row_zdg16 (by omega) B1 B2, pk_m1]
  refine ⟨by rw [ha2]; exact vp_in_nI (by omega) (by decide), ?_⟩
  rw [nI_clamp (by omega), nI_clamp (by omega)]
  refine s_Mo_divisor ?_ ?_ ?_
  · rw [en] at la; unfold ab at la; unfold zab; omega
  · rw [em] at lb; unfold ab at lb; unfold zab; omega
  have fin : ∀ (f t : Nat) (M1 : zM), t ≤ 10 → (∀ a, ¬ (109 ≤ a ∧ a ≤ 113) → a ≠ 117 → M1 a = M a) → (∀ i, i < 16 → (M1 117 i).toInt = G.1 i) → L_Mo_share_22 K a1 a2 (lN (Nat.gcd (zab (M a1 n)) (zab (M a2 m)))) N (f + 1) 1 (nI t) M1 := fun f t M1 _ f1 f2 => by
    have : J_Mo_share_143 K M1 N := s_Mo_copyG (fun M' g1 g2 => k M' (fun a x y => by rw [g1 a (by omega)]; exact f1 a x y) (fun i hi => by rw [g2 i hi]; exact f2 i hi))
    exact ⟨fun _ => this, fun _ => ⟨fun _ => this, fun c => absurd c (by decide)⟩⟩
  have step : ∀ (f t : Nat) (M1 : zM), t < 10 → (∀ a, ¬ (109 ≤ a ∧ a ≤ 113) → a ≠ 117 → M1 a = M a) → (∀ M2 : zM, (∀ a, ¬ (109 ≤ a ∧ a ≤ 113) → a ≠ 117 → M2 a = M a) → (¬ ∀ D d, eg ((bigM.getD t 0 : Nat) : Int) (prP 16 (M a1)) (prP 16 (M a2)) D d → d = g) → L_Mo_share_22 K a1 a2 (lN (Nat.gcd (zab (M a1 n)) (zab (M a2 m)))) N (f + 1) 0 (nI (t + 1)) M2) → L_Mo_share_22 K a1 a2 (lN (Nat.gcd (zab (M a1 n)) (zab (M a2 m)))) N (f + 2) 0 (nI t) M1 := fun f t M1 ht f1 next => by
    have hin := bigM_in t ht
    have hprm := bigM_p _ hin
    obtain ⟨pl, _⟩ := bigM_lo _ hin
    have ph : bigM.getD t 0 ≤ 2000000000 := by
      have : ∀ j, j < 10 → bigM.getD j 0 ≤ 2000000000 := by decide
      exact this t ht
    have hNt := hN t ht
    generalize bigM.getD t 0 = P at hprm pl ph hNt next
    obtain ⟨q, rfl⟩ : ∃ q, P = q + 2 := ⟨P - 2, by omega⟩
    have ua1 : M1 a1 = M a1 := f1 a1 r6.1 r6.2
    have ua2 : M1 a2 = M a2 := f1 a2 r7.1 r7.2
    refine ⟨fun c => absurd c (nI_ge (b := 10) (by omega) (by decide)), fun _ => ⟨fun c => absurd rfl c, fun _ => ⟨vp_in_nI (N := 10) ht (by decide), ?_⟩⟩⟩
    rw [nI_clamp (by omega), hNt, nI_l (by omega)]
    refine s_Mo_euclid ha1 ha2 (by omega) (by omega) (by omega) (by omega) hprm (by omega) (fun i hi => ?_) (fun i hi => ?_) (fun c => ?_) (fun d M2 hd f2 f3 f4 hE => ?_)
    · rw [ua1]
      have := okb_self oa i
      have e : (prP 16 (M a1)).1 i = (M a1 i).toInt := pr_lt hi
      rw [e] at this
      unfold ab at this
      omega
    · rw [ua2]
      have := okb_self ob i
      have e : (prP 16 (M a2)).1 i = (M a2 i).toInt := pr_lt hi
      rw [e] at this
      unfold ab at this
      omega
    · rw [ua1] at c
      exact big_nd pl A1 la (c n)
    · rw [ua1, ua2] at hE
      have wa1 : M2 a1 = M a1 := by rw [f2 a1 (by omega) (by omega)]; exact ua1
      have wa2 : M2 a2 = M a2 := by rw [f2 a2 (by omega) (by omega)]; exact ua2
      have f12 : ∀ a, ¬ (109 ≤ a ∧ a ≤ 113) → a ≠ 117 → M2 a = M a := fun a x y => by rw [f2 a (by omega) (by omega)]; exact f1 a x y
      refine s_share53 (M := M2) (G := G) (a := a) (b := b) (n := n) (m := m) (g := g) (P := q + 2) ha1 ha2 (by omega) (by omega) (by rw [wa1, wa2]; exact h) (by rw [wa1, wa2]) hNt ht hprm pl ph hd f3 (by rw [wa1, wa2]; exact hE) (fun M' g1 g2 => ?_) (fun M' g1 g2 => ?_)
      · exact fin f (t + 1) M' (by omega) (fun a x y => by rw [g1 a (by omega) (by omega) (by omega)]; exact f12 a x y) g2
      · rw [wa1, wa2] at g2
        exact next M' (fun a x y => by rw [g1 a (by omega) (by omega) (by omega)]; exact f12 a x y) g2
  have key : ∀ e t (M1 : zM), t + e = t0 → (∀ a, ¬ (109 ≤ a ∧ a ≤ 113) → a ≠ 117 → M1 a = M a) → L_Mo_share_22 K a1 a2 (lN (Nat.gcd (zab (M a1 n)) (zab (M a2 m)))) N (e + 2) 0 (nI t) M1 := by
    intro e
    induction e with
    | zero =>
      intro t M1 ht f1
      have : t = t0 := by omega
      subst this
      exact step 0 t M1 ht0 f1 (fun M2 _ hn => absurd (by rw [et0]; exact hp2) hn)
    | succ e ih =>
      intro t M1 ht f1
      exact step (e + 1) t M1 (by omega) f1 (fun M2 f2 _ => ih (t + 1) M2 (by omega) f2)
  exact ⟨t0 + 2, key t0 0 M (by omega) (fun _ _ _ => rfl)⟩
