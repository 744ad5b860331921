/-! The class's division: what it answers. -/
theorem zdg_0 {f : Nat → Int64} : ∀ {n : Nat}, zdg f n = 0 → ∀ i, i < n → f i = 0
  | 0, _, i, hi => by omega
  | n + 1, h, i, hi => by
    by_cases e : f n = 0
    · have h' : zdg f n = 0 := by
        have : zdg f (n + 1) = zdg f n := by show (if f n = 0 then zdg f n else n + 1) = _; rw [if_pos e]
        omega
      by_cases ei : i = n
      · rw [ei]; exact e
      · exact zdg_0 h' i (by omega)
    · have : zdg f (n + 1) = n + 1 := by show (if f n = 0 then zdg f n else n + 1) = _; rw [if_neg e]
      omega
theorem zdg_s {f : Nat → Int64} {d : Nat} : ∀ {n : Nat}, zdg f n = d + 1 → d < n ∧ f d ≠ 0 ∧ ∀ i, d < i → i < n → f i = 0
  | 0, h => by have : zdg f 0 = 0 := rfl; omega
  | n + 1, h => by
    by_cases e : f n = 0
    · have h' : zdg f n = d + 1 := by
        have : zdg f (n + 1) = zdg f n := by show (if f n = 0 then zdg f n else n + 1) = _; rw [if_pos e]
        omega
      obtain ⟨g1, g2, g3⟩ := zdg_s h'
      refine ⟨by omega, g2, fun i a b => ?_⟩
      by_cases ei : i = n
      · rw [ei]; exact e
      · exact g3 i a (by omega)
    · have h2 : zdg f (n + 1) = n + 1 := by show (if f n = 0 then zdg f n else n + 1) = _; rw [if_neg e]
      have : d = n := by omega
      subst this
      exact ⟨by omega, e, fun i a b => by omega⟩
theorem z_mulb {x y X Y : Int} (h1 : x.natAbs ≤ X.natAbs) (h2 : y.natAbs ≤ Y.natAbs) : (x * y).natAbs ≤ X.natAbs * Y.natAbs := by
  rw [Int.natAbs_mul]
  exact Nat.mul_le_mul h1 h2
theorem z_tb {x y : Int} (h1 : -100000000 ≤ x ∧ x ≤ 100000000) (h2 : -100000000 ≤ y ∧ y ≤ 100000000) : -10000000000000000 ≤ x * y ∧ x * y ≤ 10000000000000000 := by
  have h : (x * y).natAbs ≤ 100000000 * 100000000 := by
    rw [Int.natAbs_mul]
    exact Nat.mul_le_mul (by omega) (by omega)
  omega
theorem s_findQ37 {P : Int32 → zM → Prop} {a1 a2 a3 low : Nat} {M : zM} {A : Nat → Int} (h1 : zlong a1 = 8) (h2 : zlong a2 = 8) (h3 : zlong a3 = 8) (n12 : a1 ≠ a2) (n13 : a1 ≠ a3) (n23 : a2 ≠ a3) (hlow : low < 8) (hy : M a1 low ≠ 0) (hz : ∀ i, low < i → i < 8 → M a1 i = 0) (hw : zwid (M a1) 8)
    (yes : ∀ M' : zM, (∀ a, a ≠ a2 → a ≠ a3 → M' a = M a) → pdiv A (pr 8 (M a1)) (pr 8 (M' a2)) → P 1 M') (no : ∀ M' : zM, (∀ a, a ≠ a2 → a ≠ a3 → M' a = M a) → (¬ ∃ q, pdiv A (pr 8 (M a1)) q) → P 0 M') :
    ∀ k (M1 : zM), k + low ≤ 8 → (∀ a, a ≠ a2 → a ≠ a3 → M1 a = M a) → pinv A (pr 8 (M a1)) low k (pr 8 (M1 a3)) (pr 8 (M1 a2)) → (∀ i, i < 8 → (M1 a3 i).toInt.natAbs ≤ 100000000000000000 + (8 - k) * 10000000000000000) → L_Ro_findQuotient_37 P a1 a2 a3 (nI low) (k + 1) (nI k + (-1)) M1 := by
  have hb : pr 8 (M a1) low ≠ 0 := by
    rw [pr_lt hlow]
    intro e
    exact hy (by rw [← Int64.toInt_inj, e]; rfl)
  have hb0 : ∀ i, low < i → pr 8 (M a1) i = 0 := fun i hi => by
    rcases Nat.lt_or_ge i 8 with g | g
    · rw [pr_lt g, hz i hi g]; rfl
    · exact pr_ge g
  intro k
  induction k with
  | zero =>
    intro M1 hk hfr hI hB
    refine ⟨fun _ => s_Ro_degreeOf h3 (by decide) (by decide) ⟨fun g => ⟨rfl, no M1 hfr (fun ⟨q, hq⟩ => ?_)⟩, fun g => ⟨rfl, yes M1 hfr (pinv_end hI (fun i => ?_))⟩⟩, fun h => absurd (by decide) h⟩
    · have hR := pinv_no hb hb0 hI hq
      have h0 : zdg (M1 a3) 8 = 0 := by
        rcases Nat.eq_zero_or_pos (zdg (M1 a3) 8) with e | e
        · exact e
        · obtain ⟨g1, g2, -⟩ := zdg_s (d := zdg (M1 a3) 8 - 1) (show zdg (M1 a3) 8 = _ by omega)
          have := hR (zdg (M1 a3) 8 - 1)
          rw [pr_lt g1] at this
          exact absurd (by rw [← Int64.toInt_inj, this]; rfl) g2
      rw [h0] at g
      exact absurd g (by decide)
    · have h0 : zdg (M1 a3) 8 = 0 := by
        rcases Nat.eq_zero_or_pos (zdg (M1 a3) 8) with e | e
        · exact e
        · exfalso
          have : ∀ d, d < 9 → 0 < d → (0 : Int32) ≤ nI d + (-1) := by decide
          exact g (this _ (by have := zdg_le (M1 a3) 8; omega) e)
      rcases Nat.lt_or_ge i 8 with g8 | g8
      · rw [pr_lt g8, zdg_0 h0 i g8]; rfl
      · exact pr_ge g8
  | succ k ih =>
    intro M1 hk hfr hI hB
    have hx := hB (k + low) (by omega)
    have e1 : M1 a1 = M a1 := hfr a1 n12 n13
    rw [pk_m1]
    refine ⟨fun h => absurd h (nI_pos (by omega)), fun _ => ?_⟩
    rw [nI_add, nI_clamp (by omega), nI_clamp (by omega), e1]
    have hyi : (M a1 low).toInt ≠ 0 := by rw [pr_lt hlow] at hb; exact hb
    have hex : ∀ q, pdiv A (pr 8 (M a1)) q → (M1 a3 (k + low)).toInt = q k * (M a1 low).toInt := fun q hq => by
      have := pinv_top hb hb0 hI hq
      rw [pr_lt (by omega), pr_lt hlow] at this
      exact this
    have hqk : ∀ q, pdiv A (pr 8 (M a1)) q → (M1 a3 (k + low) / M a1 low).toInt = q k := fun q hq => zq_exact (by omega) hyi (hex q hq)
    refine ⟨by rw [h3]; exact vp_in_nI (by omega) (by decide), by rw [h1]; exact vp_in_nI (by omega) (by decide), hy, fun t et => ?_⟩
    refine ⟨fun g => ⟨rfl, no M1 hfr (fun ⟨q, hq⟩ => ?_)⟩, fun g => ⟨fun g2 => ?_, fun g2 => ⟨rfl, no M1 hfr (fun ⟨q, hq⟩ => ?_)⟩⟩⟩
    · rw [et, Int64.lt_iff_toInt_lt, hqk q hq, z_1e8.2] at g
      have := (hq.1 k).1
      omega
    · rw [Int64.lt_iff_toInt_lt, z_1e8.2] at g
      rw [Int64.le_iff_toInt_le, z_1e8.1] at g2
      have ht : -100000000 ≤ t.toInt ∧ t.toInt ≤ 100000000 := ⟨by omega, g2⟩
      refine s_quot79 h1 h3 n13 (by omega) (fun M' f1 f2 => ?_)
      have hsub : ∀ i, i < 8 → i ≤ k + low → k ≤ i → (M' a3 i).toInt = (M1 a3 i).toInt - t.toInt * (M a1 (i - k)).toInt := by
        intro i hi hi2 hi3
        have hbi := hB i hi
        have htb := z_tb ht (hw (i - k) (by omega))
        rw [f2 i, if_pos ⟨hi3, hi2⟩, e1]
        have hm : (t * M a1 (i - k)).toInt = t.toInt * (M a1 (i - k)).toInt := zx_mul (by omega) (by omega)
        rw [zx_sub (by rw [hm]; omega) (by rw [hm]; omega), hm]
      refine ⟨fun _ => ?_, fun h => absurd (nI_lt (by omega) (by omega)) h⟩
      rw [nI_add, nI_clamp (by omega)]
      have hfr' : ∀ a, a ≠ a2 → a ≠ a3 → M' a = M a := fun a x y => by rw [f1 a y]; exact hfr a x y
      have htop := hsub (k + low) (by omega) (by omega) (by omega)
      rw [show k + low - k = low by omega] at htop
      refine ⟨by rw [h3]; exact vp_in_nI (by omega) (by decide), fun g0 => ⟨by rw [h2]; exact vp_in_nI (by omega) (by decide), fun M2 e2 => ?_⟩, fun g0 => ⟨rfl, no M' hfr' (fun ⟨q, hq⟩ => g0 ?_)⟩⟩
      · rw [nI_clamp (by omega)] at e2
        subst e2
        refine ih _ (by omega) (fun a x y => by rw [zput_ne x]; exact hfr' a x y) (pinv_step (t := t.toInt) (by omega) hb0 hI ?_ ht.1 ht.2 (fun i => ?_) (fun j => ?_)) (fun i hi => ?_)
        · rw [pr_lt (by omega), pr_lt hlow]
          rw [g0] at htop
          have : (0 : Int64).toInt = 0 := rfl
          omega
        · rw [zput_ne (fun e => n23 e.symm)]
          rcases Nat.lt_or_ge i 8 with g8 | g8
          · by_cases c1 : k ≤ i
            · rw [if_pos c1]
              by_cases c2 : i ≤ k + low
              · rw [pr_lt g8, pr_lt g8, pr_lt (by omega), hsub i g8 c2 c1]
              · rw [pr_lt g8, pr_lt g8, hb0 (i - k) (by omega), f2 i, if_neg (fun h => c2 h.2)]
                omega
            · rw [if_neg c1, pr_lt g8, pr_lt g8, f2 i, if_neg (fun h => c1 h.1)]
              omega
          · rw [pr_ge g8, pr_ge g8, hb0 (i - k) (by omega)]
            split <;> omega
        · rw [zput_at, pr_put (by omega), f1 a2 n23]
        · rw [zput_ne (fun e => n23 e.symm)]
          have hbi := hB i hi
          have hC : (8 - k) * 10000000000000000 = (8 - (k + 1)) * 10000000000000000 + 10000000000000000 := by
            rw [show 8 - k = 8 - (k + 1) + 1 by omega, Nat.succ_mul]
          rw [hC]
          generalize (8 - (k + 1)) * 10000000000000000 = Z at hbi ⊢
          by_cases c : k ≤ i ∧ i ≤ k + low
          · have htb := z_tb ht (hw (i - k) (by omega))
            rw [hsub i hi c.2 c.1]
            omega
          · rw [f2 i, if_neg c]
            omega
      · have hq1 := hex q hq
        have hq2 := hqk q hq
        rw [← et] at hq2
        rw [← Int64.toInt_inj, htop, hq1, hq2]
        show _ = (0 : Int)
        omega
    · rw [et, Int64.le_iff_toInt_le, hqk q hq, z_1e8.1] at g2
      have := (hq.1 k).2
      omega
