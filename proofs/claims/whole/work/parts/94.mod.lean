/-! The class's rows modulo p: reduced, divided, made monic. -/
def zrw (P : Nat) (n : Nat) (f : Nat → Int64) : Prop := ∀ i, i < n → 0 ≤ (f i).toInt ∧ (f i).toInt < P
def prP (n : Nat) (f : Nat → Int64) : Pl := ⟨pr n f, n, fun _ h => pr_ge h⟩
theorem prP_dl {n : Nat} {f : Nat → Int64} : dl n (prP n f) := fun _ h => pr_ge h
theorem prP_congr {n : Nat} {f g : Nat → Int64} (h : ∀ i, i < n → f i = g i) : prP n f = prP n g := pl_ext (fun i => by
  show pr n f i = pr n g i
  unfold pr
  by_cases c : i < n
  · rw [if_pos c, if_pos c, h i c]
  · rw [if_neg c, if_neg c])
theorem z_lNp {P : Nat} (h0 : 0 < P) (h1 : P < 2 ^ 31) : (lN P).toInt = (P : Int) ∧ 0 < (lN P).toInt ∧ (0 : Int64) < lN P ∧ ¬ lN P = 0 := by
  have e : (lN P).toInt = (P : Int) := pk_lT (by omega)
  have e2 : (0 : Int64) < lN P := by rw [Int64.lt_iff_toInt_lt, e]; show (0 : Int) < _; omega
  exact ⟨e, by rw [e]; omega, e2, fun c => by rw [c] at e2; exact absurd e2 (by decide)⟩
theorem z_emod {P : Nat} (h0 : 0 < P) (x : Int) : 0 ≤ x % (P : Int) ∧ x % (P : Int) < (P : Int) := ⟨Int.emod_nonneg _ (by omega), Int.emod_lt_of_pos _ (by omega)⟩
theorem z_mulp {P : Nat} (h1 : P < 2 ^ 31) {x y : Int64} (a1 : 0 ≤ x.toInt) (a2 : x.toInt < P) (b1 : 0 ≤ y.toInt) (b2 : y.toInt < P) : (x * y).toInt = x.toInt * y.toInt ∧ 0 ≤ x.toInt * y.toInt ∧ x.toInt * y.toInt ≤ 4611686014132420609 := by
  have c1 : 0 ≤ x.toInt * y.toInt := Int.mul_nonneg a1 b1
  have c2 : x.toInt * y.toInt ≤ 2147483647 * 2147483647 := Int.mul_le_mul (by omega) (by omega) b1 (by omega)
  exact ⟨zx_mul (by omega) (by omega), c1, by omega⟩
theorem s_reduceInto {K : zM → Prop} {a0 a1 : Nat} {M : zM} {P : Nat} (h0 : zlong a0 = 8) (h1 : zlong a1 = 8) (p0 : 0 < P) (p1 : P < 2 ^ 31) (hA : ∀ i, i < 8 → (M a0 i).toInt.natAbs < 2 ^ 62) (k : ∀ M' : zM, (∀ a, a ≠ a1 → M' a = M a) → (∀ i, i < 8 → (M' a1 i).toInt = (M a0 i).toInt % P) → K M') : w_Re_reduceInto a0 a1 (lN P) M K := by
  obtain ⟨q1, q2, q3, q4⟩ := z_lNp p0 p1
  have key : ∀ d j (M1 : zM), j + d = 8 → (∀ a, a ≠ a1 → M1 a = M a) → (∀ i, i < j → (M1 a1 i).toInt = (M a0 i).toInt % P) → (∀ i, j ≤ i → M1 a0 i = M a0 i) → ∃ n, L_Re_reduceInto_3 K a0 a1 (lN P) n (nI j) M1 := by
    intro d
    induction d with
    | zero =>
      intro j M1 hj g1 g2 g3
      have : j = 8 := by omega
      subst this
      exact ⟨1, ⟨fun _ => k M1 g1 g2, fun h => absurd (by decide) h⟩⟩
    | succ d ih =>
      intro j M1 hj g1 g2 g3
      obtain ⟨n, hn⟩ := ih (j + 1) (zput M1 a1 j (zrs (M1 a0 j) (lN P))) (by omega) (fun a ha => by rw [zput_ne ha]; exact g1 a ha) (fun i hi => by
        by_cases e : i = j
        · subst e
          rw [zput_eq, zrs_e q2 (by rw [g3 i (Nat.le_refl _)]; exact hA i (by omega)), q1, g3 i (Nat.le_refl _)]
        · rw [zput_n2 e]; exact g2 i (by omega)) (fun i hi => by
        by_cases e : a0 = a1
        · rw [e, zput_n2 (by omega), ← e]; exact g3 i (by omega)
        · rw [zput_ne e]; exact g3 i (by omega))
      refine ⟨n + 1, ⟨fun h => absurd h (nI_ge (b := 8) (by omega) (by decide)), fun _ => ⟨by rw [h0]; exact vp_in_nI (by omega) (by decide), ?_⟩⟩⟩
      rw [nI_clamp (by omega), nI_1]
      refine s_residue q3 ⟨by rw [h1]; exact vp_in_nI (by omega) (by decide), fun M4 e4 => ?_⟩
      rw [e4]
      exact hn
  exact key 8 0 M (by omega) (fun _ _ => rfl) (fun i hi => by omega) (fun _ _ => rfl)
/-- division modulo P under way -/
def minv (P : Int) (A b : Nat → Int) (low k : Nat) (R Q : Nat → Int) : Prop := (∀ i, k + low ≤ i → R i = 0) ∧ (∀ j, j < k → Q j = 0) ∧ ∀ i, P ∣ A i - (pmul Q b i + R i)
theorem minv_step {P : Int} {A b R Q R' Q' : Nat → Int} {low k : Nat} {t : Int} (hI : minv P A b low (k + 1) R Q) (hR0 : ∀ i, k + low ≤ i → R' i = 0) (hR : ∀ i, P ∣ R' i - (R i - (if k ≤ i then t * b (i - k) else 0))) (hQ : ∀ j, Q' j = if j = k then t else Q j) : minv P A b low k R' Q' := by
  refine ⟨hR0, fun j hj => by rw [hQ j, if_neg (by omega)]; exact hI.2.1 j (by omega), fun i => ?_⟩
  have e1 : pmul Q' b i = pmul (fun j => Q j + pone t k j) b i := pmul_congr (fun j _ => by
    rw [hQ j]
    unfold pone
    by_cases e : j = k
    · rw [if_pos e, if_pos e, e, hI.2.1 k (by omega)]; omega
    · rw [if_neg e, if_neg e]; omega) (fun _ _ => rfl)
  rw [e1, pmul_add, pmul_one]
  have := Int.dvd_sub (hI.2.2 i) (hR i)
  rw [show A i - (pmul Q b i + R i) - (R' i - (R i - (if k ≤ i then t * b (i - k) else 0))) = A i - (pmul Q b i + (if k ≤ i then t * b (i - k) else 0) + R' i) by omega] at this
  exact this
theorem s_do60 {K : zM → Prop} {k36 : Int32 → zM → Prop} {a0 a1 a2 low k : Nat} {t p v6 : Int64} {M : zM} (h0 : zlong a0 = 8) (h1 : zlong a1 = 8) (hne : a1 ≠ a0) (hk : k + low < 8) (hp : (0 : Int64) < p) (q : ∀ M' : zM, (∀ a, a ≠ a0 → M' a = M a) → (∀ i, M' a0 i = if k ≤ i ∧ i ≤ k + low then zrs (M a0 i - t * M a1 (i - k)) p else M a0 i) → B_Re_divideOut_60 K k36 a0 a1 a2 p (nI low) v6 (nI k) t (fun _ _ => False) (nI (low + 1)) M') : ∃ n, L_Re_divideOut_60 K k36 a0 a1 a2 p (nI low) v6 (nI k) t n (0 : Int32) M := by
  have key : ∀ d j (M1 : zM), j + d = low + 1 → (∀ a, a ≠ a0 → M1 a = M a) → (∀ i, M1 a0 i = if k ≤ i ∧ i < k + j then zrs (M a0 i - t * M a1 (i - k)) p else M a0 i) → ∃ n, L_Re_divideOut_60 K k36 a0 a1 a2 p (nI low) v6 (nI k) t n (nI j) M1 := by
    intro d
    induction d with
    | zero =>
      intro j M1 hj g1 g2
      have : j = low + 1 := by omega
      subst this
      refine ⟨1, q M1 g1 (fun i => ?_)⟩
      rw [g2 i]
      by_cases e : k ≤ i ∧ i ≤ k + low
      · rw [if_pos e, if_pos ⟨e.1, by omega⟩]
      · rw [if_neg e, if_neg (fun h => e ⟨h.1, by omega⟩)]
    | succ d ih =>
      intro j M1 hj g1 g2
      obtain ⟨n, hn⟩ := ih (j + 1) (zput M1 a0 (k + j) (zrs (M1 a0 (k + j) - t * M a1 j) p)) (by omega) (fun a ha => by rw [zput_ne ha]; exact g1 a ha) (fun i => by
        by_cases e : i = k + j
        · subst e
          rw [zput_eq, g2, if_neg (fun h => by omega), if_pos ⟨by omega, by omega⟩, show k + j - k = j by omega]
        · rw [zput_n2 e, g2 i]
          by_cases e2 : k ≤ i ∧ i < k + j
          · rw [if_pos e2, if_pos ⟨e2.1, by omega⟩]
          · rw [if_neg e2, if_neg (fun h => e2 ⟨h.1, by omega⟩)])
      refine ⟨n + 1, ⟨fun h => absurd h (nI_nlt (by omega) (by omega)), fun _ => ?_⟩⟩
      rw [nI_add, nI_clamp (by omega), nI_clamp (by omega), nI_1]
      have hin : vp_in (nI (k + j)) (zlong a0) := by rw [h0]; exact vp_in_nI (by omega) (by decide)
      refine ⟨hin, by rw [h1]; exact vp_in_nI (by omega) (by decide), s_residue hp ⟨hin, fun M2 e => ?_⟩⟩
      rw [e, g1 a1 hne]
      exact hn
  exact key (low + 1) 0 M (by omega) (fun _ _ => rfl) (fun i => by rw [if_neg (fun h => by omega)])
theorem dvd_mod0 {P : Nat} {x : Int} (h : (P : Int) ∣ x) : x % (P : Int) = 0 := Int.emod_eq_zero_of_dvd h
theorem s_do36 {K : zM → Prop} {a0 a1 a2 low : Nat} {v : Int64} {M : zM} {P : Nat} {A : Nat → Int} (h0 : zlong a0 = 8) (h1 : zlong a1 = 8) (h2 : zlong a2 = 8) (n01 : a0 ≠ a1) (n02 : a0 ≠ a2) (n12 : a1 ≠ a2) (hlow : low < 8) (p0 : 0 < P) (p1 : P < 2 ^ 31) (hb : zrw P 8 (M a1)) (hz : ∀ i, low < i → i < 8 → M a1 i = 0) (v0 : 0 ≤ v.toInt) (v1 : v.toInt < P) (hv : (P : Int) ∣ (M a1 low).toInt * v.toInt - 1)
    (k : ∀ M' : zM, (∀ a, a ≠ a0 → a ≠ a2 → M' a = M a) → zrw P 8 (M' a0) → zrw P 8 (M' a2) → minv P A (pr 8 (M a1)) low 0 (pr 8 (M' a0)) (pr 8 (M' a2)) → (∀ j, 8 ≤ j + low → j < 8 → M' a2 j = 0) → K M') :
    ∀ n (M1 : zM), n + low ≤ 8 → (∀ a, a ≠ a0 → a ≠ a2 → M1 a = M a) → zrw P 8 (M1 a0) → zrw P 8 (M1 a2) → minv P A (pr 8 (M a1)) low n (pr 8 (M1 a0)) (pr 8 (M1 a2)) → (∀ j, 8 ≤ j + low → j < 8 → M1 a2 j = 0) → L_Re_divideOut_36 K a0 a1 a2 (lN P) (nI low) v (n + 1) (nI n + (-1)) M1 := by
  obtain ⟨q1, q2, q3, q4⟩ := z_lNp p0 p1
  have hb0 : ∀ i, low < i → pr 8 (M a1) i = 0 := fun i hi => by
    rcases Nat.lt_or_ge i 8 with g | g
    · rw [pr_lt g, hz i hi g]; rfl
    · exact pr_ge g
  intro n
  induction n with
  | zero =>
    intro M1 hk hfr r0 r2 hI hj
    exact ⟨fun _ => k M1 hfr r0 r2 hI hj, fun h => absurd (by decide) h⟩
  | succ n ih =>
    intro M1 hk hfr r0 r2 hI hj
    have e1 : M1 a1 = M a1 := hfr a1 (fun e => n01 e.symm) n12
    rw [pk_m1]
    refine ⟨fun h => absurd h (nI_pos (by omega)), fun _ => ?_⟩
    rw [nI_add, nI_clamp (by omega)]
    refine ⟨by rw [h0]; exact vp_in_nI (by omega) (by decide), s_residue q3 ?_⟩
    have hx := r0 (n + low) (by omega)
    obtain ⟨m1, m2, m3⟩ := z_mulp p1 hx.1 hx.2 v0 v1
    have ht : (zrs (M1 a0 (n + low) * v) (lN P)).toInt = ((M1 a0 (n + low)).toInt * v.toInt) % P := by
      rw [zrs_e q2 (by rw [m1]; omega), m1, q1]
    have htr := z_emod p0 ((M1 a0 (n + low)).toInt * v.toInt)
    generalize zrs (M1 a0 (n + low) * v) (lN P) = t at ht ⊢
    rw [← ht] at htr
    refine s_do60 h0 h1 (fun e => n01 e.symm) (by omega) q3 (fun M' f1 f2 => ?_)
    refine ⟨fun _ => ⟨by rw [h2]; exact vp_in_nI (by omega) (by decide), fun M2 em => ?_⟩, fun h => absurd (nI_lt (by omega) (by omega)) h⟩
    rw [nI_clamp (by omega)] at em
    subst em
    have hval : ∀ i, i < 8 → n ≤ i → i ≤ n + low → (M' a0 i).toInt = ((M1 a0 i).toInt - t.toInt * (M a1 (i - n)).toInt) % P := fun i hi c1 c2 => by
      rw [f2 i, if_pos ⟨c1, c2⟩, e1]
      have hy := hb (i - n) (by omega)
      have hxi := r0 i hi
      obtain ⟨u1, u2, u3⟩ := z_mulp p1 htr.1 htr.2 hy.1 hy.2
      have es : (M1 a0 i - t * M a1 (i - n)).toInt = (M1 a0 i).toInt - t.toInt * (M a1 (i - n)).toInt := by
        rw [zx_sub (by rw [u1]; omega) (by rw [u1]; omega), u1]
      rw [zrs_e q2 (by rw [es]; omega), es, q1]
    have htop : (M' a0 (n + low)).toInt = 0 := by
      rw [hval (n + low) (by omega) (by omega) (by omega), show n + low - n = low by omega]
      refine dvd_mod0 ?_
      have g1 : (P : Int) ∣ t.toInt - (M1 a0 (n + low)).toInt * v.toInt := by rw [ht]; exact mod_dvd _ _
      obtain ⟨y, hy⟩ := g1
      obtain ⟨z, hz'⟩ := hv
      exact ⟨-(y * (M a1 low).toInt) - (M1 a0 (n + low)).toInt * z, by grind⟩
    have r0' : zrw P 8 (M' a0) := fun i hi => by
      by_cases c : n ≤ i ∧ i ≤ n + low
      · rw [hval i hi c.1 c.2]; exact z_emod p0 _
      · rw [f2 i, if_neg c]; exact r0 i hi
    refine ih _ (by omega) (fun a x y => by rw [zput_ne y, f1 a x]; exact hfr a x y) (by rw [zput_ne n02]; exact r0') (fun i hi => ?_) (minv_step (t := t.toInt) hI (fun i hi => ?_) (fun i => ?_) (fun j => ?_)) (fun j c1 c2 => ?_)
    · by_cases c : i = n
      · rw [c, zput_eq]; exact htr
      · rw [zput_n2 c, f1 a2 (fun e => n02 e.symm)]; exact r2 i hi
    · rw [zput_ne n02]
      rcases Nat.lt_or_ge i 8 with g | g
      · rw [pr_lt g]
        by_cases c : i = n + low
        · rw [c]; exact htop
        · rw [f2 i, if_neg (fun h => by omega)]
          have := hI.1 i (by omega)
          rw [pr_lt g] at this
          exact this
      · exact pr_ge g
    · rw [zput_ne n02]
      rcases Nat.lt_or_ge i 8 with g | g
      · rw [pr_lt g, pr_lt g]
        by_cases c : n ≤ i
        · rw [if_pos c]
          by_cases c2 : i ≤ n + low
          · rw [hval i g c c2, pr_lt (by omega)]
            exact mod_dvd _ _
          · rw [f2 i, if_neg (fun h => c2 h.2), hb0 (i - n) (by omega)]
            exact ⟨0, by rw [Int.mul_zero, Int.mul_zero]; omega⟩
        · rw [if_neg c, f2 i, if_neg (fun h => c h.1)]
          exact ⟨0, by rw [Int.mul_zero]; omega⟩
      · rw [pr_ge g, pr_ge g, hb0 (i - n) (by omega)]
        exact ⟨0, by rw [Int.mul_zero]; split <;> omega⟩
    · rw [zput_at, pr_put (by omega), f1 a2 (fun e => n02 e.symm)]
    · rw [zput_n2 (by omega), f1 a2 (fun e => n02 e.symm)]
      exact hj j c1 c2
theorem s_divideOut {K : zM → Prop} {a0 a1 a2 low q : Nat} {M : zM} (h0 : zlong a0 = 8) (h1 : zlong a1 = 8) (h2 : zlong a2 = 8) (n01 : a0 ≠ a1) (n02 : a0 ≠ a2) (n12 : a1 ≠ a2) (hp : prm ((q + 2 : Nat) : Int)) (p1 : q + 2 < 2 ^ 31) (ha : zrw (q + 2) 8 (M a0)) (hb : zrw (q + 2) 8 (M a1)) (hl : zdg (M a1) 8 = low + 1)
    (k : ∀ M' : zM, (∀ a, a ≠ a0 → a ≠ a2 → M' a = M a) → zrw (q + 2) 8 (M' a0) → zrw (q + 2) 8 (M' a2) → minv ((q + 2 : Nat) : Int) (pr 8 (M a0)) (pr 8 (M a1)) low 0 (pr 8 (M' a0)) (pr 8 (M' a2)) → (∀ j, 8 ≤ j + low → j < 8 → M' a2 j = 0) → K M') : w_Re_divideOut a0 a1 a2 (lN (q + 2)) M K := by
  obtain ⟨g1, g2, g3⟩ := zdg_s hl
  obtain ⟨q1, q2, q3, q4⟩ := z_lNp (P := q + 2) (by omega) p1
  refine s_Ro_degreeOf h1 (by decide) (by decide) ?_
  refine s_Ar_fillJ h2 (by decide) (by decide) (fun M5 f1 f2 => ?_)
  rw [hl, pk_m1]
  refine ⟨fun _ => ⟨by rw [h1]; exact vp_in_nI g1 (by decide), ?_⟩, fun h => absurd (nI_pos' (by omega)) h⟩
  rw [nI_clamp (by omega), f1 a1 n12]
  have hbl := hb low g1
  refine s_inverseOf p1 hbl.1 hbl.2 (fun v v0 v1 hv => ?_)
  have hnd : ¬ ((q + 2 : Nat) : Int) ∣ (M a1 low).toInt := fun c => by
    have h3 : (M a1 low).toInt ≠ 0 := fun e => g2 (by rw [← Int64.toInt_inj, e]; rfl)
    have := Int.le_of_dvd (by omega) c
    omega
  have hvi : ((q + 2 : Nat) : Int) ∣ (M a1 low).toInt * v.toInt - 1 := by
    obtain ⟨y, hy⟩ := hv
    obtain ⟨z, hz⟩ := fermat_inv hp hnd
    exact ⟨(M a1 low).toInt * y + z, by grind⟩
  refine s_Ro_degreeOf h0 (by decide) (by decide) (fun x13 ex => ?_)
  rw [f1 a0 n02] at ex
  have hr2 : ∀ i, i < 8 → M5 a2 i = 0 := f2
  have hfr : ∀ a, a ≠ a0 → a ≠ a2 → M5 a = M a := fun a _ y => f1 a y
  have hp2 : pr 8 (M5 a2) = fun _ => 0 := by
    funext i
    unfold pr
    by_cases c : i < 8
    · rw [if_pos c, hr2 i c]; rfl
    · rw [if_neg c]
  have e0 : M5 a0 = M a0 := f1 a0 n02
  have hz2 : zrw (q + 2) 8 (M5 a2) := fun i hi => by rw [hr2 i hi]; exact ⟨by decide, by show (0 : Int) < _; omega⟩
  have hst : ∀ n, zdg (M a0) 8 ≤ n + low → minv ((q + 2 : Nat) : Int) (pr 8 (M a0)) (pr 8 (M a1)) low n (pr 8 (M5 a0)) (pr 8 (M5 a2)) := fun n hn => by
    rw [e0, hp2]
    refine ⟨fun i hi => ?_, fun _ _ => rfl, fun i => ⟨0, ?_⟩⟩
    · rcases Nat.lt_or_ge i 8 with g | g
      · rw [pr_lt g]
        rcases Nat.eq_zero_or_pos (zdg (M a0) 8) with e | e
        · rw [zdg_0 e i g]; rfl
        · obtain ⟨_, _, g6⟩ := zdg_s (f := M a0) (n := 8) (d := zdg (M a0) 8 - 1) (by omega)
          rw [g6 i (by omega) g]; rfl
      · exact pr_ge g
    · rw [pmul_z (fun _ => rfl), Int.mul_zero]
      omega
  have hd8 := zdg_le (M a0) 8
  by_cases c : low + 1 ≤ zdg (M a0) 8
  · refine ⟨zdg (M a0) 8 - low + 1, ?_⟩
    have ex2 : x13 = nI (zdg (M a0) 8 - low) + (-1) := by
      rw [ex, show zdg (M a0) 8 = (zdg (M a0) 8 - 1) + 1 by omega, pk_m1, pk_sub (by omega), show zdg (M a0) 8 - 1 + 1 - low = (zdg (M a0) 8 - 1 - low) + 1 by omega, pk_m1]
    rw [ex2]
    exact s_do36 (M := M) (A := pr 8 (M a0)) h0 h1 h2 n01 n02 n12 g1 (by omega) p1 hb g3 v0 v1 hvi k (zdg (M a0) 8 - low) M5 (by omega) hfr (by rw [e0]; exact ha) hz2 (hst _ (by omega)) (fun j _ h => hr2 j h)
  · refine ⟨1, ⟨fun _ => k M5 hfr (by rw [e0]; exact ha) hz2 (hst 0 (by omega)) (fun j _ h => hr2 j h), fun h => absurd ?_ h⟩⟩
    rw [ex]
    have : ∀ d, d < 9 → ∀ l, l < 8 → d ≤ l → nI d + (-1) - nI l < 0 := by decide
    exact this _ (by omega) _ g1 (by omega)
