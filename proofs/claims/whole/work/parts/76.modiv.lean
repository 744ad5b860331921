/-! The reference's division: the outer loop. -/
def zwd (f : Nat → Int64) (n : Nat) : Prop := ∀ i, i < n → -1000000000 ≤ (f i).toInt ∧ (f i).toInt ≤ 1000000000
theorem z_tb9 {x y : Int} (h1 : -100000000 ≤ x ∧ x ≤ 100000000) (h2 : -1000000000 ≤ y ∧ y ≤ 1000000000) : -100000000000000000 ≤ x * y ∧ x * y ≤ 100000000000000000 := by
  have h : (x * y).natAbs ≤ 100000000 * 1000000000 := by
    rw [Int.natAbs_mul]
    exact Nat.mul_le_mul (by omega) (by omega)
  omega
theorem s_modiv49 {P : Int32 → zM → Prop} {a1 low : Nat} {M : zM} {A : Nat → Int} (h1 : zlong a1 = 16) (n12 : a1 ≠ 110) (n13 : a1 ≠ 109) (hlow : low < 16) (hy : M a1 low ≠ 0) (hz : ∀ i, low < i → i < 16 → M a1 i = 0) (hw : zwd (M a1) 16)
    (yes : ∀ M' : zM, (∀ a, a ≠ 110 → a ≠ 109 → M' a = M a) → pdiv A (pr 16 (M a1)) (pr 16 (M' 110)) → P 1 M') (no : ∀ M' : zM, (∀ a, a ≠ 110 → a ≠ 109 → M' a = M a) → (¬ ∃ q, pdiv A (pr 16 (M a1)) q) → P 0 M') :
    ∀ k (M1 : zM) (v5 : Int32), k ≤ 8 → k + low ≤ 16 → (0 < k → v5 = nI k + (-1)) → (k = 0 → v5 < 0) → (∀ a, a ≠ 110 → a ≠ 109 → M1 a = M a) → pinv A (pr 16 (M a1)) low k (pr 16 (M1 109)) (pr 16 (M1 110)) → (∀ i, i < 16 → (M1 109 i).toInt.natAbs ≤ 100000000000000000 + (8 - k) * 100000000000000000) → L_Mo_divides_49 P a1 (nI low) (k + 1) v5 M1 := by
  have hb : pr 16 (M a1) low ≠ 0 := by
    rw [pr_lt hlow]
    intro e
    exact hy (by rw [← Int64.toInt_inj, e]; rfl)
  have hb0 : ∀ i, low < i → pr 16 (M a1) i = 0 := fun i hi => by
    rcases Nat.lt_or_ge i 16 with g | g
    · rw [pr_lt g, hz i hi g]; rfl
    · exact pr_ge g
  intro k
  induction k with
  | zero =>
    intro M1 v5 _ hk _ hv hfr hI hB
    refine ⟨fun _ => s_Mo_degreeOf (by decide) ⟨fun g => ⟨rfl, no M1 hfr (fun ⟨q, hq⟩ => ?_)⟩, fun g => ⟨rfl, yes M1 hfr (pinv_end hI (fun i => ?_))⟩⟩, fun h => absurd (hv rfl) h⟩
    · have hR := pinv_no hb hb0 hI hq
      have h0 : zdg (M1 109) 16 = 0 := by
        rcases Nat.eq_zero_or_pos (zdg (M1 109) 16) with e | e
        · exact e
        · obtain ⟨g1, g2, -⟩ := zdg_s (d := zdg (M1 109) 16 - 1) (show zdg (M1 109) 16 = _ by omega)
          have := hR (zdg (M1 109) 16 - 1)
          rw [pr_lt g1] at this
          exact absurd (by rw [← Int64.toInt_inj, this]; rfl) g2
      rw [h0] at g
      exact absurd g (by decide)
    · have h0 : zdg (M1 109) 16 = 0 := by
        rcases Nat.eq_zero_or_pos (zdg (M1 109) 16) with e | e
        · exact e
        · exfalso
          have : ∀ d, d < 17 → 0 < d → (0 : Int32) ≤ nI d + (-1) := by decide
          exact g (this _ (by have := zdg_le (M1 109) 16; omega) e)
      rcases Nat.lt_or_ge i 16 with g8 | g8
      · rw [pr_lt g8, zdg_0 h0 i g8]; rfl
      · exact pr_ge g8
  | succ k ih =>
    intro M1 v5 hk8 hk hv _ hfr hI hB
    have hx := hB (k + low) (by omega)
    have e1 : M1 a1 = M a1 := hfr a1 n12 n13
    rw [hv (by omega), pk_m1]
    refine ⟨fun h => absurd h (nI_pos (by omega)), fun _ => ?_⟩
    rw [nI_add, nI_clamp (by omega), nI_clamp (by omega), e1]
    have hyi : (M a1 low).toInt ≠ 0 := by rw [pr_lt hlow] at hb; exact hb
    have hex : ∀ q, pdiv A (pr 16 (M a1)) q → (M1 109 (k + low)).toInt = q k * (M a1 low).toInt := fun q hq => by
      have := pinv_top hb hb0 hI hq
      rw [pr_lt (by omega), pr_lt hlow] at this
      exact this
    have hqk : ∀ q, pdiv A (pr 16 (M a1)) q → (M1 109 (k + low) / M a1 low).toInt = q k := fun q hq => zq_exact (by omega) hyi (hex q hq)
    have v9 : vp_in (nI (k + low)) (zlong 109) := vp_in_nI (by show k + low < 16; omega) (by decide)
    have v1 : vp_in (nI low) (zlong a1) := by rw [h1]; exact vp_in_nI (by omega) (by decide)
    have htq : (M1 109 (k + low) / M a1 low).toInt = (M1 109 (k + low)).toInt.tdiv (M a1 low).toInt := zx_div (by omega)
    have hty : (M1 109 (k + low) / M a1 low * M a1 low).toInt = (M1 109 (k + low) / M a1 low).toInt * (M a1 low).toInt := by
      have : ((M1 109 (k + low) / M a1 low).toInt * (M a1 low).toInt).natAbs ≤ (M1 109 (k + low)).toInt.natAbs := by
        rw [htq, Int.natAbs_mul, Int.natAbs_tdiv]
        exact Nat.div_mul_le_self _ _
      exact zx_mul (by omega) (by omega)
    refine ⟨v9, v1, hy, fun g0 => ⟨v9, v1, hy, fun t et => ?_⟩, fun g0 => ⟨rfl, no M1 hfr (fun ⟨q, hq⟩ => g0 ?_)⟩⟩
    · have htb : zab t < 2 ^ 62 := by
        unfold zab
        rw [et, htq, Int.natAbs_tdiv]
        exact Nat.lt_of_le_of_lt (Nat.div_le_self _ _) (by omega)
      have hle : lN (zab t) ≤ (100000000 : Int64) ↔ zab t ≤ 100000000 := pk_lLE (a := zab t) (b := 100000000) (by omega) (by decide)
      refine s_amount htb ⟨fun g => ⟨vp_in_nI (by show k < 16; omega) (by decide), fun M19 e19 => ?_⟩, fun g => ⟨rfl, no M1 hfr (fun ⟨q, hq⟩ => ?_)⟩⟩
      · rw [nI_clamp (by omega)] at e19
        have g := hle.mp g
        unfold zab at g
        have ht : -100000000 ≤ t.toInt ∧ t.toInt ≤ 100000000 := by omega
        have m9 : M19 109 = M1 109 := by rw [e19, zput_ne (by decide)]
        have m1 : M19 a1 = M a1 := by rw [e19, zput_ne n12, e1]
        refine s_modiv115 h1 n13 (by omega) (fun M' f1 f2 => ?_)
        rw [m9, m1] at f2
        have hsub : ∀ i, i < 16 → i ≤ k + low → k ≤ i → (M' 109 i).toInt = (M1 109 i).toInt - t.toInt * (M a1 (i - k)).toInt := by
          intro i hi hi2 hi3
          have hbi := hB i hi
          have htb := z_tb9 ht (hw (i - k) (by omega))
          rw [f2 i, if_pos ⟨hi3, hi2⟩]
          have hm : (t * M a1 (i - k)).toInt = t.toInt * (M a1 (i - k)).toInt := zx_mul (by omega) (by omega)
          rw [zx_sub (by rw [hm]; omega) (by rw [hm]; omega), hm]
        refine ih M' _ (by omega) (by omega) (fun _ => rfl) (fun e => by rw [e]; decide) (fun a x y => by rw [f1 a y, e19, zput_ne x]; exact hfr a x y) (pinv_step (t := t.toInt) (by omega) hb0 hI ?_ ht.1 ht.2 (fun i => ?_) (fun j => ?_)) (fun i hi => ?_)
        · rw [pr_lt (by omega), pr_lt hlow]
          have hd : (M1 109 (k + low) - M1 109 (k + low) / M a1 low * M a1 low).toInt = 0 := by rw [g0]; rfl
          rw [← et] at hty hd
          have htt := z_tb9 ht (hw low hlow)
          rw [zx_sub (by rw [hty]; omega) (by rw [hty]; omega), hty] at hd
          omega
        · rcases Nat.lt_or_ge i 16 with g8 | g8
          · by_cases c1 : k ≤ i
            · rw [if_pos c1]
              by_cases c2 : i ≤ k + low
              · rw [pr_lt g8, pr_lt g8, pr_lt (by omega), hsub i g8 c2 c1]
              · rw [pr_lt g8, pr_lt g8, hb0 (i - k) (by omega), f2 i, if_neg (fun h => c2 h.2)]
                omega
            · rw [if_neg c1, pr_lt g8, pr_lt g8, f2 i, if_neg (fun h => c1 h.1)]
              omega
          · rw [pr_ge g8, pr_ge g8, hb0 (i - k) (by omega)]
            split <;> omega
        · rw [f1 110 (by decide), e19, zput_at, pr_put (by omega)]
        · have hbi := hB i hi
          have hC : (8 - k) * 100000000000000000 = (8 - (k + 1)) * 100000000000000000 + 100000000000000000 := by
            rw [show 8 - k = 8 - (k + 1) + 1 by omega, Nat.succ_mul]
          rw [hC]
          generalize (8 - (k + 1)) * 100000000000000000 = Z at hbi ⊢
          by_cases c : k ≤ i ∧ i ≤ k + low
          · have htb := z_tb9 ht (hw (i - k) (by omega))
            rw [hsub i hi c.2 c.1]
            omega
          · rw [f2 i, if_neg c]
            omega
      · have hq2 := hqk q hq
        rw [← et] at hq2
        have := hq.1 k
        refine g (hle.mpr ?_)
        unfold zab
        omega
    · have hq1 := hex q hq
      have hq2 := hqk q hq
      rw [hq2] at hty
      rw [← Int64.toInt_inj, zx_sub (by rw [hty]; omega) (by rw [hty]; omega), hty, hq1]
      show _ = (0 : Int)
      omega
