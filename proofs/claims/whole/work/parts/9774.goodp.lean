/-! Both programs take the same good prime. -/
theorem zdv_e {f : Nat → Int64} {i : Nat} (hi : i < 15) (hb : (f (i + 1)).toInt.natAbs ≤ 100000000000) : (zdv f i).toInt = ((i : Int) + 1) * (f (i + 1)).toInt := by
  unfold zdv
  have e1 : (nI (i + 1)).toInt64.toInt = (i : Int) + 1 := by rw [nI_l (by omega), pk_lT (by omega)]; rfl
  have hm : (((i : Int) + 1) * (f (i + 1)).toInt).natAbs ≤ 16 * 100000000000 := by
    rw [Int.natAbs_mul]
    exact Nat.mul_le_mul (by omega) hb
  rw [zx_mul (by rw [e1]; omega) (by rw [e1]; omega), e1]
/-- the derivative's row -/
theorem row_T {f g : Nat → Int64} {n : Nat} (hn : n ≤ 16) (hn1 : 1 ≤ n) (hb : ∀ i, i < n → (f i).toInt.natAbs ≤ 100000000000) (h1 : ∀ i, i < n - 1 → g i = zdv f i) (h2 : g (n - 1) = 0) : prP n g = plT (prP n f) := pl_ext (fun i => by
  show pr n g i = ((i : Int) + 1) * pr n f (i + 1)
  rcases Nat.lt_or_ge i (n - 1) with c | c
  · rw [pr_lt (by omega), pr_lt (by omega), h1 i c, zdv_e (by omega) (hb (i + 1) (by omega))]
  · rw [pr_ge (f := f) (by omega), Int.mul_zero]
    by_cases d : i = n - 1
    · rw [d, pr_lt (by omega), h2]; rfl
    · exact pr_ge (by omega))
/-- the first prime that is good for O -/
def fst_p (O : Pl) (k p : Nat) : Prop := p ∈ smP ∧ gsm (p : Int) O k ∧ ∀ t, t ∈ smP → t < p → ¬ gsm (t : Int) O k
theorem fst_ex {O : Pl} {k : Nat} (h : ∃ p, p ∈ smP ∧ gsm (p : Int) O k) : ∃ p, fst_p O k p := by
  obtain ⟨p, ⟨h1, h2⟩, h3⟩ := ex_min h
  exact ⟨p, h1, h2, fun t a b c => h3 t b ⟨a, c⟩⟩
theorem eg_cop {p : Int} (hp : prm p) {A B D : Pl} {d : Nat} (h : eg p A B D d) : d = 0 ↔ cop p A B := by
  obtain ⟨h1, h2, ⟨u, v, h3⟩, a4, b5⟩ := h
  constructor
  · intro e
    subst e
    rw [mon_1 ⟨h1, h2⟩] at h3
    exact ⟨u, v, h3⟩
  · intro c
    have hd := cop_dvp1 c a4 b5
    have h0 : mt p (plX 1 0) 0 := mt_of (by show ¬ p ∣ (if 0 = 0 then 1 else 0); exact prm_1 hp) (dl_X (by omega))
    have := dvp_mt hp (mon_mt hp ⟨h1, h2⟩) hd h0
    omega
theorem cop_cg {p : Int} {a b a' b' : Pl} (h : cop p a b) (ha : cg p a a') (hb : cg p b b') : cop p a' b' := by
  obtain ⟨u, v, h⟩ := h
  exact ⟨u, v, cg_trans h (cg_A (cg_M cg_refl ha) (cg_M cg_refl hb))⟩
theorem smP_ix : ∀ p, p ∈ smP → ∃ j, j < 46 ∧ smP.getD j 0 = p := by decide +kernel
theorem smP_in : ∀ j, j < 46 → smP.getD j 0 ∈ smP ∧ (zsp j).toInt64 = lN (smP.getD j 0) := by decide +kernel
theorem smP_mono : ∀ j, j < 46 → ∀ i, i < j → smP.getD i 0 < smP.getD j 0 := by decide +kernel
theorem s_goodPrime {K : Int64 → zM → Prop} {M : zM} {N : zN} {k p : Nat} (hk : 1 ≤ k) (O1 : (prP 8 (M 74)).1 k ≠ 0) (O2 : dl (k + 1) (prP 8 (M 74))) (k7 : k < 8) (hb : ∀ i, i < 8 → (M 74 i).toInt.natAbs ≤ 100000000) (hf : fst_p (prP 8 (M 74)) k p)
    (kk : ∀ M' : zM, (∀ a, a ≠ 75 → a ≠ 77 → a ≠ 78 → M' a = M a) → K (lN p) M') : w_Sp_goodPrime M N K := by
  have z74 : zlong 74 = 8 := by decide
  have z75 : zlong 75 = 8 := by decide
  have z77 : zlong 77 = 8 := by decide
  have z78 : zlong 78 = 8 := by decide
  obtain ⟨t0, ht0, et0⟩ := smP_ix p hf.1
  have zk : zdg (M 74) 8 = k + 1 := row_zdg k7 O1 O2
  have ek : (prP 8 (M 74)).1 k = (M 74 k).toInt := pr_lt k7
  have step : ∀ (k2 : Int32 → zM → Prop) (j : Nat) (M1 : zM), j < 46 → j ≤ t0 → (∀ a, a ≠ 75 → a ≠ 77 → a ≠ 78 → M1 a = M a) → (j < t0 → ∀ M2 : zM, (∀ a, a ≠ 75 → a ≠ 77 → a ≠ 78 → M2 a = M a) → k2 (nI (j + 1)) M2) → B_Sp_goodPrime_2 K N k2 (nI j) M1 := fun k2 j M1 hj hjt hfr next => by
    obtain ⟨s1, s2'⟩ := smP_in j hj
    have hprm := smP_p _ s1
    have hlt : j < t0 → ¬ gsm ((smP.getD j 0 : Nat) : Int) (prP 8 (M 74)) k := fun h => hf.2.2 _ s1 (by rw [← et0]; exact smP_mono t0 ht0 j h)
    have heq : ¬ j < t0 → smP.getD j 0 = p := fun h => by rw [show j = t0 by omega]; exact et0
    obtain ⟨c1, c2, _⟩ := smP_c _ s1
    generalize smP.getD j 0 = P at s2' hprm hlt heq c1 c2
    obtain ⟨q, rfl⟩ : ∃ q, P = q + 2 := ⟨P - 2, by omega⟩
    -- what is wanted where the prime is not good
    have nogood : ∀ M2 : zM, (∀ a, a ≠ 75 → a ≠ 77 → a ≠ 78 → M2 a = M a) → ¬ gsm ((q + 2 : Nat) : Int) (prP 8 (M 74)) k → k2 (nI j + 1) M2 := fun M2 f hn => by
      rw [nI_1]
      refine next ?_ M2 f
      rcases Nat.lt_or_ge j t0 with h | h
      · exact h
      · exfalso
        have := heq (by omega)
        rw [← this] at hf
        exact hn hf.2.1
    refine ⟨fun c => absurd c (nI_ge (b := 46) (by omega) (by decide)), fun _ => ⟨vp_in_nI hj (by decide), fun x4 e4 => ?_⟩⟩
    rw [nI_clamp (by omega), s2'] at e4
    subst e4
    have e74 : M1 74 = M 74 := hfr 74 (by decide) (by decide) (by decide)
    refine s_Ro_slopeInto (by decide) (by decide) (by decide) (by decide) (by decide) (fun Ma f1 f2 f3 _ => ?_)
    rw [e74] at f2
    have eT : prP 8 (Ma 75) = plT (prP 8 (M 74)) := row_T (by decide) (by decide) (fun i hi => by have := hb i hi; omega) f2 f3
    have vT : ∀ i, i < 8 → (Ma 75 i).toInt.natAbs < 2 ^ 62 := fun i hi => by
      have e5 : (Ma 75 i).toInt = ((i : Int) + 1) * pr 8 (M 74) (i + 1) := by
        have := congrArg (fun c : Pl => c.1 i) eT
        have e6 : (prP 8 (Ma 75)).1 i = (Ma 75 i).toInt := pr_lt hi
        rw [← e6]
        exact this
      rw [e5, Int.natAbs_mul]
      have e7 : (pr 8 (M 74) (i + 1)).natAbs ≤ 100000000 := by
        rcases Nat.lt_or_ge (i + 1) 8 with c | c
        · rw [pr_lt c]; exact hb _ c
        · rw [pr_ge c]; decide
      have := Nat.mul_le_mul (show ((i : Int) + 1).natAbs ≤ 8 by omega) e7
      omega
    refine s_reduceInto z75 z75 (by omega) (by omega) vT (fun Mb f4 f5 => ?_)
    have b74 : Mb 74 = M 74 := by rw [f4 74 (by decide), f1 74 (by decide)]; exact e74
    refine s_reduceInto z74 z78 (by omega) (by omega) (fun i hi => by rw [b74]; have := hb i hi; omega) (fun Mc f6 f7 => ?_)
    rw [b74] at f7
    have c75 : Mc 75 = Mb 75 := f6 75 (by decide)
    have c74 : Mc 74 = M 74 := by rw [f6 74 (by decide)]; exact b74
    have r78 : zrw (q + 2) 8 (Mc 78) := fun i hi => by rw [f7 i hi]; exact z_emod (by omega) _
    have r75 : zrw (q + 2) 8 (Mc 75) := fun i hi => by rw [c75, f5 i hi]; exact z_emod (by omega) _
    have g78 : cg ((q + 2 : Nat) : Int) (prP 8 (Mc 78)) (prP 8 (M 74)) := red_cg (P := q + 2) f7
    have g75 : cg ((q + 2 : Nat) : Int) (prP 8 (Mc 75)) (plT (prP 8 (M 74))) := by
      rw [← eT, c75]
      exact red_cg (P := q + 2) f5
    have fMc : ∀ a, a ≠ 75 → a ≠ 77 → a ≠ 78 → Mc a = M a := fun a x y z => by rw [f6 a z, f4 a x, f1 a x]; exact hfr a x y z
    refine s_Ro_degreeOf z78 (by decide) (by decide) (s_Ro_degreeOf z74 (by decide) (by decide) ?_)
    rw [c74, zk]
    have le8 := zdg_le (Mc 78) 8
    have inj : ∀ a, a < 9 → ∀ b, b < 9 → (nI a + (-1) = nI b + (-1) ↔ a = b) := by decide
    have hdeg : zdg (Mc 78) 8 = k + 1 ↔ ¬ ((q + 2 : Nat) : Int) ∣ (prP 8 (M 74)).1 k := by
      constructor
      · intro h c
        exact (mt_cg g78 (row_mt r78 h)).1 c
      · intro h
        have hm : mt ((q + 2 : Nat) : Int) (prP 8 (Mc 78)) k := mt_cg (cg_symm g78) (mt_of h O2)
        rcases Nat.eq_zero_or_pos (zdg (Mc 78) 8) with e | e
        · exact absurd (row_0 e k) hm.1
        · have := row_mt (d := zdg (Mc 78) 8 - 1) r78 (by omega)
          have := mt_uniq hm this
          omega
    refine ⟨fun c => ?_, fun c => ?_⟩
    · rw [inj _ (by omega) _ (by omega), hdeg] at c
      refine nogood Mc fMc (fun h => c h.1)
    · rw [inj _ (by omega) _ (by omega)] at c
      refine s_commonOf z78 z75 z77 (by decide) (by decide) (by decide) hprm (by omega) r78 r75 (by omega) (fun r d Md hr hd f8 f9 f10 hE0 => ?_)
      have hE := eg_cg hE0 g78 g75
      have hr8 : zlong r = 8 := by rcases hr with e | e <;> rw [e] <;> decide
      have fMd : ∀ a, a ≠ 75 → a ≠ 77 → a ≠ 78 → Md a = M a := fun a x y z => by rw [f8 a z x y]; exact fMc a x y z
      refine s_Ro_degreeOf hr8 (by decide) (by decide) ?_
      rw [f10, pk_m1]
      refine ⟨fun e => nogood Md fMd (fun h => e ?_), fun e => ?_⟩
      · rw [(eg_cop hprm hE).mpr h.2]; rfl
      · have d0 : d = 0 := (nI_eq (a := d) (b := 0) (by omega) (by decide)).mp e
        have hg : gsm ((q + 2 : Nat) : Int) (prP 8 (M 74)) k := ⟨hdeg.mp c, (eg_cop hprm hE).mp d0⟩
        have hj2 : ¬ j < t0 := fun h => hlt h hg
        rw [heq hj2]
        exact kk Md fMd
  have key : ∀ e j (M1 : zM), j + e = t0 → (∀ a, a ≠ 75 → a ≠ 77 → a ≠ 78 → M1 a = M a) → L_Sp_goodPrime_2 K N (e + 1) (nI j) M1 := by
    intro e
    induction e with
    | zero =>
      intro j M1 hj hfr
      exact step _ j M1 (by omega) (by omega) hfr (fun h => by omega)
    | succ e ih =>
      intro j M1 hj hfr
      exact step _ j M1 (by omega) (by omega) hfr (fun _ M2 f => ih (j + 1) M2 (by omega) f)
  exact ⟨t0 + 1, key t0 0 M (by omega) (fun _ _ _ _ => rfl)⟩
theorem zpr_sm : ∀ p, p < 200 → (p ∈ smP ↔ (2 ≤ p ∧ ∀ d, d < 15 → 2 ≤ d → d * d ≤ p → p % d ≠ 0)) := by decide +kernel
theorem zpr_in {p : Nat} (hp : p < 200) : zpr p ↔ p ∈ smP := by
  rw [zpr_sm p hp]
  constructor
  · intro h
    exact ⟨h.1, fun d _ a b => h.2 d a b⟩
  · intro h
    refine ⟨h.1, fun d a b => ?_⟩
    have : d < 15 := by
      rcases Nat.lt_or_ge d 15 with c | c
      · exact c
      · have := Nat.mul_le_mul c c
        omega
    exact h.2 d this a b
theorem s_Mo_goodPrime {K : Int64 → zM → Prop} {M : zM} {k p : Nat} (hk : 1 ≤ k) (O1 : (prP 16 (M 105)).1 k ≠ 0) (O2 : dl (k + 1) (prP 16 (M 105))) (k7 : k < 8) (hb : ∀ i, i < 16 → (M 105 i).toInt.natAbs ≤ 100000000) (hf : fst_p (prP 16 (M 105)) k p)
    (kk : ∀ M' : zM, (∀ a, a ≠ 107 → a ≠ 111 → a ≠ 112 → M' a = M a) → K (lN p) M') : w_Mo_goodPrime M K := by
  have z105 : zlong 105 = 16 := by decide
  have zk : zdg (M 105) 16 = k + 1 := row_zdg16 (by omega) O1 O2
  have ek : (prP 16 (M 105)).1 k = (M 105 k).toInt := pr_lt (by omega)
  obtain ⟨p1, p2, _⟩ := smP_c p hf.1
  refine s_Mo_derivative z105 (by decide) (by decide) (fun Ma f1 f2 f3 => ?_)
  have eT : prP 16 (Ma 107) = plT (prP 16 (M 105)) := row_T (by decide) (by decide) (fun i hi => by have := hb i hi; omega) f2 f3
  have vT : ∀ i, i < 16 → (Ma 107 i).toInt.natAbs < 2 ^ 62 := fun i hi => by
    have e5 : (Ma 107 i).toInt = ((i : Int) + 1) * pr 16 (M 105) (i + 1) := by
      have := congrArg (fun c : Pl => c.1 i) eT
      have e6 : (prP 16 (Ma 107)).1 i = (Ma 107 i).toInt := pr_lt hi
      rw [← e6]
      exact this
    rw [e5, Int.natAbs_mul]
    have e7 : (pr 16 (M 105) (i + 1)).natAbs ≤ 100000000 := by
      rcases Nat.lt_or_ge (i + 1) 16 with c | c
      · rw [pr_lt c]; exact hb _ c
      · rw [pr_ge c]; decide
    have := Nat.mul_le_mul (show ((i : Int) + 1).natAbs ≤ 16 by omega) e7
    omega
  have fin : ∀ (f : Nat) (M1 : zM), (∀ a, a ≠ 107 → a ≠ 111 → a ≠ 112 → M1 a = M a) → L_Mo_goodPrime_15 K (f + 1) (lN p) 1 M1 := fun f M1 h1 => ⟨fun _ => kk M1 h1, fun c => absurd c (by decide)⟩
  have key : ∀ e t (M1 : zM), t + e + 1 = p → (∀ a, a ≠ 107 → a ≠ 111 → a ≠ 112 → M1 a = M a) → M1 107 = Ma 107 → L_Mo_goodPrime_15 K (e + 2) (lN t) 0 M1 := by
    intro e
    induction e with
    | zero =>
      intro t M1 ht h1 h2
      have e105 : M1 105 = M 105 := h1 105 (by decide) (by decide) (by decide)
      obtain ⟨q, hq⟩ : ∃ q, p = q + 2 := ⟨p - 2, by omega⟩
      have hprm := smP_p p hf.1
      rw [hq] at hprm
      obtain ⟨q1, q2, q3, q4⟩ := z_lNp (P := q + 2) (by omega) (by omega)
      refine ⟨fun c => absurd rfl c, fun _ x4 e4 => ?_⟩
      rw [e4, lN_1, show t + 1 = q + 2 by omega]
      refine s_Mo_isPrime (by omega) (fun _ => ⟨fun c => absurd c (by decide), fun _ => s_Mo_degreeOf z105 ?_⟩) (fun h => absurd ((zpr_in (by omega)).mpr (by rw [← hq]; exact hf.1)) h)
      rw [e105, zk, pk_m1]
      refine ⟨by rw [z105]; exact vp_in_nI (by omega) (by decide), q4, ?_⟩
      rw [nI_clamp (by omega)]
      have hg := hf.2.1
      rw [hq] at hg
      refine ⟨fun c => ?_, fun _ => s_Mo_euclid z105 (by decide) (by decide) (by decide) (by decide) (by decide) hprm (by omega) (fun i hi => by rw [e105]; have := hb i hi; omega) (fun i hi => by rw [h2]; exact vT i hi) (fun c => ?_) (fun d M2 hd g1 g2 g3 hE => ⟨fun c => absurd ?_ c, fun _ => ?_⟩)⟩
      · exfalso
        obtain ⟨y, y1, _, _, _⟩ := zrm_q (a := M 105 k) q2 (by have := hb k (by omega); omega)
        rw [c, q1] at y1
        refine hg.1 ⟨y, ?_⟩
        have y1' : (0 : Int) = (M 105 k).toInt - y * ((q + 2 : Nat) : Int) := y1
        rw [ek, Int.mul_comm]
        omega
      · rw [e105] at c
        exact hg.1 (c k)
      · rw [e105, h2, eT] at hE
        rw [(eg_cop hprm hE).mpr hg.2]; rfl
      · rw [← hq]
        exact fin 0 M2 (fun a x y z => by rw [g1 a y z]; exact h1 a x y z)
    | succ e ih =>
      intro t M1 ht h1 h2
      have e105 : M1 105 = M 105 := h1 105 (by decide) (by decide) (by decide)
      obtain ⟨q, hq⟩ : ∃ q, t + 1 = q + 1 := ⟨t, rfl⟩
      refine ⟨fun c => absurd rfl c, fun _ x4 e4 => ?_⟩
      rw [e4, lN_1]
      refine s_Mo_isPrime (by omega) (fun hz => ⟨fun c => absurd c (by decide), fun _ => s_Mo_degreeOf z105 ?_⟩) (fun _ => ⟨fun _ => ih (t + 1) M1 (by omega) h1 h2, fun c => absurd rfl c⟩)
      have hin := (zpr_in (by omega)).mp hz
      have hprm := smP_p _ hin
      have hng := hf.2.2 _ hin (by omega)
      obtain ⟨q, hq⟩ : ∃ q, t + 1 = q + 2 := ⟨t - 1, by have := hz.1; omega⟩
      rw [hq] at hprm hng ⊢
      obtain ⟨q1, q2, q3, q4⟩ := z_lNp (P := q + 2) (by omega) (by omega)
      rw [e105, zk, pk_m1]
      refine ⟨by rw [z105]; exact vp_in_nI (by omega) (by decide), q4, ?_⟩
      rw [nI_clamp (by omega)]
      have ih' : ∀ M2 : zM, (∀ a, a ≠ 107 → a ≠ 111 → a ≠ 112 → M2 a = M a) → M2 107 = Ma 107 → L_Mo_goodPrime_15 K (e + 2) (lN (q + 2)) 0 M2 := fun M2 a b => by
        rw [← hq]; exact ih (t + 1) M2 (by omega) a b
      refine ⟨fun _ => ih' M1 h1 h2, fun c => ?_⟩
      have hnd : ¬ ((q + 2 : Nat) : Int) ∣ (prP 16 (M 105)).1 k := fun d => c (by
        rw [ek] at d
        have hb2 := hb k (by omega)
        obtain ⟨y, y1, y2, y3, _⟩ := zrm_q (a := M 105 k) q2 (by omega)
        rw [q1] at y1 y2 y3
        rw [← Int64.toInt_inj, y1]
        obtain ⟨z, hz'⟩ := d
        have : ((q + 2 : Nat) : Int) ∣ (M 105 k).toInt - y * ((q + 2 : Nat) : Int) := ⟨z - y, by rw [hz']; grind⟩
        have := near_eq (p := ((q + 2 : Nat) : Int)) (x := (M 105 k).toInt - y * ((q + 2 : Nat) : Int)) (y := 0) (by rw [Int.sub_zero]; exact this) (by unfold ab; omega)
        rw [this]; rfl)
      refine s_Mo_euclid z105 (by decide) (by decide) (by decide) (by decide) (by decide) hprm (by omega) (fun i hi => by rw [e105]; have := hb i hi; omega) (fun i hi => by rw [h2]; exact vT i hi) (fun c => by rw [e105] at c; exact hnd (c k)) (fun d M2 hd g1 g2 g3 hE => ⟨fun _ => ih' M2 (fun a x y z => by rw [g1 a y z]; exact h1 a x y z) (by rw [g1 107 (by decide) (by decide)]; exact h2), fun c => ?_⟩)
      exfalso
      rw [e105, h2, eT] at hE
      have d0 : d = 0 := (nI_eq (a := d) (b := 0) (by omega) (by decide)).mp c
      exact hng ⟨hnd, (eg_cop hprm hE).mp d0⟩
  refine ⟨p - 2 + 2, ?_⟩
  have := key (p - 2) 1 Ma (by omega) (fun a x _ _ => f1 a x) rfl
  exact this
