/-! The reference's division as a whole. -/
theorem s_Mo_divides {P : Int32 → zM → Prop} {a1 a2 : Nat} {M : zM} (h1 : zlong a1 = 16) (h2 : zlong a2 = 16) (n12 : a1 ≠ 110) (n13 : a1 ≠ 109) (n22 : a2 ≠ 110) (n23 : a2 ≠ 109) (hne : zdg (M a1) 16 ≠ 0) (hd8 : zdg (M a2) 16 ≤ 8) (hw : zwd (M a1) 16) (hA : ∀ i, i < 16 → (M a2 i).toInt.natAbs ≤ 100000000000000000)
    (yes : ∀ M' : zM, (∀ a, a ≠ 110 → a ≠ 109 → M' a = M a) → pdiv (pr 16 (M a2)) (pr 16 (M a1)) (pr 16 (M' 110)) → P 1 M') (no : ∀ M' : zM, (∀ a, a ≠ 110 → a ≠ 109 → M' a = M a) → (¬ ∃ q, pdiv (pr 16 (M a2)) (pr 16 (M a1)) q) → P 0 M') : w_Mo_divides a1 a2 M P := by
  obtain ⟨low, hl⟩ : ∃ low, zdg (M a1) 16 = low + 1 := ⟨zdg (M a1) 16 - 1, by omega⟩
  obtain ⟨g1, g2, g3⟩ := zdg_s hl
  refine s_Mo_degreeOf h1 (s_Mo_degreeOf h2 (s_Mo_copy h2 (by decide) n23 (fun M8 f1 f2 => ?_)))
  rw [hl, pk_m1]
  have top : ∀ i, zdg (M a2) 16 ≤ i → pr 16 (M a2) i = 0 := fun i hi => by
    rcases Nat.lt_or_ge i 16 with g | g
    · rw [pr_lt g]
      rcases Nat.eq_zero_or_pos (zdg (M a2) 16) with e | e
      · rw [zdg_0 e i g]; rfl
      · obtain ⟨-, -, g5⟩ := zdg_s (d := zdg (M a2) 16 - 1) (show zdg (M a2) 16 = _ by omega)
        rw [g5 i (by omega) g]; rfl
    · exact pr_ge g
  have fill : ∀ d j (M1 : zM), j + d = 16 → (∀ a, a ≠ 110 → M1 a = M8 a) → (∀ i, i < j → M1 110 i = 0) → ∃ n, L_Mo_divides_22 P a1 (nI low) (nI (zdg (M a2) 16) + (-1)) n (nI j) M1 := by
    intro d
    induction d with
    | zero =>
      intro j M1 hj c1 c2
      have : j = 16 := by omega
      subst this
      refine ⟨1, ⟨fun _ x10 ex => ⟨zdg (M a2) 16 - low + 1, ?_⟩, fun h => absurd (by decide) h⟩⟩
      have hp9 : pr 16 (M1 109) = pr 16 (M a2) := by
        funext i
        unfold pr
        by_cases c : i < 16
        · rw [if_pos c, if_pos c, c1 109 (by decide), f2 i c]
        · rw [if_neg c, if_neg c]
      have hp0 : pr 16 (M1 110) = fun _ => 0 := by
        funext i
        unfold pr
        by_cases c : i < 16
        · rw [if_pos c, c2 i c]; rfl
        · rw [if_neg c]
      refine s_modiv49 (M := M) (A := pr 16 (M a2)) h1 n12 n13 g1 g2 g3 hw yes no (zdg (M a2) 16 - low) M1 x10 (by omega) (by omega) (fun h => ?_) (fun h => ?_) (fun a x y => by rw [c1 a x, f1 a y]) ?_ (fun i hi => ?_)
      · obtain ⟨d, hd⟩ : ∃ d, zdg (M a2) 16 = d + 1 := ⟨zdg (M a2) 16 - 1, by omega⟩
        rw [ex, hd, pk_m1, pk_sub (by omega), show d + 1 - low = d - low + 1 by omega, pk_m1]
      · rw [ex]
        have : ∀ d, d < 9 → ∀ l, l < 16 → d ≤ l → nI d + (-1) - nI l < 0 := by decide
        exact this _ (by omega) _ g1 (by omega)
      · rw [hp9, hp0]
        exact pinv_0 (fun i hi => top i (by omega))
      · rw [c1 109 (by decide), f2 i hi]
        have := hA i hi
        omega
    | succ d ih =>
      intro j M1 hj c1 c2
      obtain ⟨n, hn⟩ := ih (j + 1) (zput M1 110 j 0) (by omega) (fun a ha => by rw [zput_ne ha]; exact c1 a ha) (fun i hi => by
        by_cases e : i = j
        · subst e; rw [zput_eq]
        · rw [zput_n2 e]; exact c2 i (by omega))
      refine ⟨n + 1, ⟨fun h => absurd h (nI_ge (by omega) (by omega) : ¬ nI 16 ≤ nI j), fun _ => ⟨vp_in_nI (by show j < 16; omega) (by decide), fun M2 e => ?_⟩⟩⟩
      rw [e, nI_clamp (by omega), nI_1]
      exact hn
  exact fill 16 0 M8 rfl (fun _ _ => rfl) (fun i hi => by omega)
