/-! divide. -/
theorem zpui_2 {N : zN} {x y : Int32} : zpui (zpui N 99 0 x) 99 0 y = zpui N 99 0 y := by
  funext a j
  unfold zpui
  split <;> rfl
theorem pr_ld {M M' : zM} {N : zN} (hI : zreg M N) {r c : Nat} (hr : r < 4) (h : ∀ i, i < 16 → M' c i = zld N r i) : pr 16 (M' c) = pr 8 (M (2 + r)) := by
  funext i
  unfold pr
  rcases Nat.lt_or_ge i 8 with g | g
  · rw [if_pos (by omega), if_pos g, h i (by omega), z_ld hI hr g]
  · rw [if_neg (by omega : ¬ i < 8)]
    by_cases c : i < 16
    · rw [if_pos c, h i c, z_ld0 g]; rfl
    · rw [if_neg c]
theorem s_Mo_divide {r s t : Nat} {M M0 : zM} {N : zN} {P : Int32 → zM → zN → Prop} (hI : zreg M0 N) (hr : r < 4) (hs : s < 4) (ht : t < 4)
    (bad : (zdg (M0 (2 + t)) 8 = 0 ∨ ¬ ∃ q, pdiv (pr 8 (M0 (2 + s))) (pr 8 (M0 (2 + t))) q) → ∀ M' : zM, (∀ a, ¬ (104 ≤ a ∧ a ≤ 117) → M' a = M a) → P 0 M' (zpui N 99 0 2))
    (yes : zdg (M0 (2 + t)) 8 ≠ 0 → ∀ M' : zM, (∀ a, ¬ (104 ≤ a ∧ a ≤ 117) → M' a = M a) → pdiv (pr 8 (M0 (2 + s))) (pr 8 (M0 (2 + t))) (pr 16 (M' 110)) → w_Mo_settle (nI r) 110 3 M' (zpui N 99 0 0) (fun r24 N26 => P r24 M' N26)) : w_Mo_divide (nI r) (nI s) (nI t) M N P := by
  refine s_isReg (fun _ => ⟨fun h => absurd h (by decide), fun _ => ?_⟩) (fun h => absurd ⟨r, hr, rfl⟩ h)
  refine s_isReg (fun _ => ⟨fun h => absurd h (by decide), fun _ => ?_⟩) (fun h => absurd ⟨s, hs, rfl⟩ h)
  refine s_isReg (fun _ => ⟨fun h => absurd h (by decide), fun _ => ?_⟩) (fun h => absurd ⟨t, ht, rfl⟩ h)
  intro N0 e0
  have hz : N0 99 0 = 0 := by rw [e0, zpui_eq]
  have hzl : ∀ q, zld N0 q = zld N q := fun q => by rw [e0]; unfold zld; rw [zpui_ne (by decide)]
  rw [hz]
  refine ⟨fun _ => ?_, fun h => absurd (by decide) h⟩
  refine s_Mo_load hs (by decide) (fun Ma a1 a2 => s_Mo_load ht (by decide) (fun Mb b1 b2 => ?_))
  have v6 : ∀ i, i < 16 → Mb 106 i = zld N s i := fun i hi => by rw [b1 106 (by decide), a2 i hi, hzl]
  have v7 : ∀ i, i < 16 → Mb 107 i = zld N t i := fun i hi => by rw [b2 i hi, hzl]
  have d7 : zdg (Mb 107) 16 = zdg (M0 (2 + t)) 8 := by
    rw [zdg_congr v7, zdg_up (n := 8) (by decide) (fun i a _ => z_ld0 a)]
    exact zdg_congr (fun i hi => z_ld hI ht hi)
  have fr : ∀ a, ¬ (104 ≤ a ∧ a ≤ 117) → Mb a = M a := fun a ha => by rw [b1 a (by omega), a1 a (by omega)]
  have J2 : ∀ M' : zM, P 0 M' (zpui N 99 0 2) → J_Mo_divide_88 P (nI r) 2 M' N0 := fun M' h N23 e => by
    rw [e, e0, zpui_2, zpui_eq]
    exact ⟨fun g => absurd g (by decide), fun _ => h⟩
  refine s_Mo_degreeOf (by decide) ?_
  rw [d7]
  rcases Nat.eq_zero_or_pos (zdg (M0 (2 + t)) 8) with e | e
  · rw [e]
    exact ⟨fun _ => J2 Mb (bad (Or.inl e) Mb fr), fun h => absurd (by decide) h⟩
  · refine ⟨fun h => ?_, fun _ => ?_⟩
    · exfalso
      have : ∀ d, d < 9 → 0 < d → ¬ nI d + (-1) < 0 := by decide
      exact this _ (by have := zdg_le (M0 (2 + t)) 8; omega) e h
    · have p6 := pr_ld hI hs v6
      have p7 := pr_ld hI ht v7
      refine s_Mo_divides (by decide) (by decide) (by decide) (by decide) (by decide) (by decide) (by omega) ?_ (fun i hi => ?_) (fun i hi => ?_) (fun M' f hq => ⟨fun h => absurd h (by decide), fun _ N23 e => ?_⟩) (fun M' f hq => ⟨fun _ => J2 M' (bad (Or.inr ?_) M' (fun a ha => by rw [f a (by omega) (by omega), fr a ha])), fun h => absurd rfl h⟩)
      · rw [zdg_congr v6, zdg_up (n := 8) (by decide) (fun i a _ => z_ld0 a)]
        exact zdg_le _ _
      · rw [v7 i hi]
        have := z_ldab hI i ht
        unfold zab at this
        omega
      · rw [v6 i hi]
        have := z_ldab hI i hs
        unfold zab at this
        omega
      · rw [p6, p7] at hq
        rw [e, e0, zpui_2, zpui_eq]
        exact ⟨fun _ => yes (by omega) M' (fun a ha => by rw [f a (by omega) (by omega), fr a ha]) hq, fun h => absurd (by decide) h⟩
      · rw [p6, p7] at hq
        exact hq
