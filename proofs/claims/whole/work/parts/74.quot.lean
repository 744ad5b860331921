/-! findQuotient as a whole. -/
theorem s_findQuotient {P : Int32 → zM → Prop} {a0 a1 a2 a3 : Nat} {M : zM} (h0 : zlong a0 = 8) (h1 : zlong a1 = 8) (h2 : zlong a2 = 8) (h3 : zlong a3 = 8) (n02 : a0 ≠ a2) (n12 : a1 ≠ a2) (n13 : a1 ≠ a3) (n23 : a2 ≠ a3) (hA : ∀ i, i < 8 → (M a0 i).toInt.natAbs ≤ 100000000000000000)
    (bad : zdg (M a1) 8 = 0 ∨ ¬ zwid (M a1) 8 → P 0 M) (yes : zdg (M a1) 8 ≠ 0 → zwid (M a1) 8 → ∀ M' : zM, (∀ a, a ≠ a2 → a ≠ a3 → M' a = M a) → pdiv (pr 8 (M a0)) (pr 8 (M a1)) (pr 8 (M' a2)) → P 1 M') (no : zdg (M a1) 8 ≠ 0 → zwid (M a1) 8 → ∀ M' : zM, (∀ a, a ≠ a2 → a ≠ a3 → M' a = M a) → (¬ ∃ q, pdiv (pr 8 (M a0)) (pr 8 (M a1)) q) → P 0 M') : w_Ro_findQuotient a0 a1 a2 a3 M P := by
  refine s_Ro_degreeOf h1 (by decide) (by decide) ?_
  rcases Nat.eq_zero_or_pos (zdg (M a1) 8) with e | e
  · rw [e]
    exact ⟨fun _ => ⟨rfl, bad (Or.inl e)⟩, fun h => absurd (by decide) h⟩
  · obtain ⟨low, hl⟩ : ∃ low, zdg (M a1) 8 = low + 1 := ⟨zdg (M a1) 8 - 1, by omega⟩
    obtain ⟨g1, g2, g3⟩ := zdg_s hl
    rw [hl, pk_m1]
    refine ⟨fun h => absurd h (nI_pos (by omega)), fun _ => s_isWide h1 (by decide) (by decide) (fun hw => ⟨fun _ => ?_, fun h => absurd rfl h⟩) (fun hw => ⟨fun h => absurd h (by decide), fun _ => ⟨rfl, bad (Or.inr hw)⟩⟩)⟩
    refine s_Ar_fillJ h2 (by decide) (by decide) (fun M8 f1 f2 => ⟨by omega, by omega, fun M11 e11 x13 ex => ?_⟩)
    have ex : x13 = nI (8 - low) + (-1) := by
      rw [ex, show (7 : Int32) = nI 7 from rfl, pk_sub (by omega), show 8 - low = 7 - low + 1 by omega, pk_m1]
    have hr3 : ∀ i, i < 8 → M11 a3 i = M a0 i := fun i hi => by rw [e11, zcpy8 hi, f1 a0 n02]
    have hr2 : ∀ i, i < 8 → M11 a2 i = 0 := fun i hi => by rw [e11, zcpy_ne n23, f2 i hi]
    have hfr : ∀ a, a ≠ a2 → a ≠ a3 → M11 a = M a := fun a x y => by rw [e11, zcpy_ne y, f1 a x]
    have hp3 : pr 8 (M11 a3) = pr 8 (M a0) := by
      funext i
      unfold pr
      by_cases c : i < 8
      · rw [if_pos c, if_pos c, hr3 i c]
      · rw [if_neg c, if_neg c]
    have hp2 : pr 8 (M11 a2) = fun _ => 0 := by
      funext i
      unfold pr
      by_cases c : i < 8
      · rw [if_pos c, hr2 i c]; rfl
      · rw [if_neg c]
    refine ⟨8 - low + 1, ?_⟩
    rw [ex]
    refine s_findQ37 (M := M) (A := pr 8 (M a0)) h1 h2 h3 n12 n13 n23 g1 g2 g3 hw (fun M' x y => yes (by omega) hw M' x y) (fun M' x y => no (by omega) hw M' x y) (8 - low) M11 (by omega) hfr ?_ (fun i hi => ?_)
    · rw [hp3, hp2]
      exact pinv_0 (fun i hi => pr_ge (by omega))
    · rw [hr3 i hi]
      have := hA i hi
      omega
