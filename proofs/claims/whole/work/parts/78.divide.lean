/-! divide. -/
theorem zpui_2 {N : zN} {x y : Int32} : zpui (zpui N 99 0 x) 99 0 y = zpui N 99 0 y := by
  funext a j
  unfold zpui
  split <;> rfl
theorem pr_ld {M M' : zM} {N : zN} (hI : zreg M N) {r c : Nat} (hr : r < 4) (h : ∀ i, i < 16 → M' c i = zld N r i) : pr 16 (M' c) = pr 8 (M (2 + r)) := by
  funext i
  unfold pr
  rcases Nat.lt_or_ge i 8 with g | g
  · rw [if_pos (by omega), if_pos g, h i (by omega), z_ld hI hr g]
  · rw [if_neg (by omega : ¬ i < 8)]
    by_cases c : i < 16
    · rw [if_pos c, h i c, z_ld0 g]; rfl
    · rw [if_neg c]
theorem s_Mo_divide {r s t : Nat} {M M0 : zM} {N : zN} {P : Int32 → zM → zN → Prop} (hI : zreg M0 N) (hr : r < 4) (hs : s < 4) (ht : t < 4)
    (bad : (zdg (M0 (2 + t)) 8 = 0 ∨ ¬ ∃ q, pdiv (pr 8 (M0 (2 + s))) (pr 8 (M0 (2 + t))) q) → ∀ M' : zM, (∀ a, ¬ (104 ≤ a ∧ a ≤ 117) → M' a = M a) → P 0 M' (zpui N 99 0 2))
    (yes : zdg (M0 (2 + t)) 8 ≠ 0 → ∀ M' : zM, (∀ a, ¬ (104 ≤ a ∧ a ≤ 117) → M' a = M a) → pdiv (pr 8 (M0 (2 + s))) (pr 8 (M0 (2 + t))) (pr 16 (M' 110)) → w_Mo_settle (nI r) 110 3 M' (zpui N 99 0 0) (fun r24 N26 => P r24 M' N26)) : w_Mo_divide (nI r) (nI s) (nI t) M N P := by
  refine s_isReg (fun _ => ⟨fun h => absurd h (by decide), fun _ => ?_⟩) (fun h => absurd ⟨r, hr, rfl⟩ h)
  refine s_isReg (fun _ => ⟨fun h => absurd h (by decide), fun _ => ?_⟩) (fun h => absurd ⟨s, hs, rfl⟩ h)
  refine s_isReg (fun _ => ⟨fun h => absurd h (by decide), fun _ => ?_⟩) (fun h => absurd ⟨t, ht, rfl⟩ h)
  intro N0 e0
  have hz : N0 99 0 = 0 := by rw [e0, zpui_eq]
  have hzl : ∀ q, zld N0 q = zld N q := fun q => by rw [e0]; unfold zld; rw [zpui_ne (by decide)]
  rw [hz]
  refine ⟨fun _ => ?_, fun h => absurd (by decide) h⟩
  refine s_Mo_load hs (by decide) (fun Ma a1 a2 => s_Mo_load ht (by decide) (fun Mb b1 b2 => ?_))
  have v6 : ∀ i, i < 16 → Mb 106 i = zld N s i := fun i hi => by rw [b1 106 (by decide), a2 i hi, hzl]
  have v7 : ∀ i, i < 16 → Mb 107 i = zld N t i := fun i hi => by rw [b2 i hi, hzl]
  have d7 : zdg (Mb 107) 16 = zdg (M0 (2 + t)) 8 := by
    rw [zdg_congr v7, zdg_up (n := 8) (by decide) (fun i a _ => z_ld0 a)]
    exact zdg_congr (fun i hi => z_ld hI ht hi)
  have fr : ∀ a, ¬ (104 ≤ a ∧ a ≤ 117) → Mb a = M a := fun a ha => by rw [b1 a (by omega), a1 a (by omega)]
  have J2 : ∀ M' : zM, P 0 M' (zpui N 99 0 2) → J_Mo_divide_88 P (nI r) 2 M' N0 := fun M' h N23 e => by
    rw [e, e0, zpui_2, zpui_eq]
    exact ⟨fun g => absurd g (by decide), fun _ => h⟩
  refine s_Mo_degreeOf (by decide) ?_
  rw [d7]
  rcases Nat.eq_zero_or_pos (zdg (M0 (2 + t)) 8) with e | e
  · rw [e]
    exact ⟨fun _ => J2 Mb (bad (Or.inl e) Mb fr), fun h => absurd (by decide) h⟩
  · refine ⟨fun h => ?_, fun _ => ?_⟩
    · exfalso
      have : ∀ d, d < 9 → 0 < d → ¬ nI d + (-1) < 0 := by decide
      exact this _ (by have := zdg_le (M0 (2 + t)) 8; omega) e h
    · have p6 := pr_ld hI hs v6
      have p7 := pr_ld hI ht v7
      refine s_Mo_divides (by decide) (by decide) (by decide) (by decide) (by decide) (by decide) (by omega) ?_ (fun i hi => ?_) (fun i hi => ?_) (fun M' f hq => ⟨fun h => absurd h (by decide), fun _ N23 e => ?_⟩) (fun M' f hq => ⟨fun _ => J2 M' (bad (Or.inr ?_) M' (fun a ha => by rw [f a (by omega) (by omega), fr a ha])), fun h => absurd rfl h⟩)
      · rw [zdg_congr v6, zdg_up (n := 8) (by decide) (fun i a _ => z_ld0 a)]
        exact zdg_le _ _
      · rw [v7 i hi]
        have := z_ldab hI i ht
        unfold zab at this
        omega
      · rw [v6 i hi]
        have := z_ldab hI i hs
        unfold zab at this
        omega
      · rw [p6, p7] at hq
        rw [e, e0, zpui_2, zpui_eq]
        exact ⟨fun _ => yes (by omega) M' (fun a ha => by rw [f a (by omega) (by omega), fr a ha]) hq, fun h => absurd (by decide) h⟩
      · rw [p6, p7] at hq
        exact hq
theorem u_divide {a1 a2 a3 : Int32} {M : zM} {N : zN} {K : zM → zN → Prop} {Q : Int32 → zM → Prop} (hI : zreg M N) (hk : ∀ M' N', zreg M' N' → zkp M N M' N' → K M' N') (hQ : ∀ q M1, w_Mo_divide a1 a2 a3 M1 N (fun r4 M5 N6 => zth K q r4 M5 N6) → Q q M1) : w_La_divide a1 a2 a3 M Q := by
  by_cases h : zR a1 4 ∧ zR a2 4 ∧ zR a3 4
  · obtain ⟨⟨r, hr, rfl⟩, ⟨s, hs, rfl⟩, ⟨t, ht, rfl⟩⟩ := h
    refine s_reg (fun _ => s_reg (fun _ => s_reg (fun _ => ⟨z_gn hs, z_gn ht, ?_⟩) (fun h => absurd ⟨t, ht, rfl⟩ h)) (fun h => absurd ⟨s, hs, rfl⟩ h)) (fun h => absurd ⟨r, hr, rfl⟩ h)
    rw [nI_clamp (by omega), nI_clamp (by omega)]
    have hwid : zwid (M (2 + t)) 8 := fun i hi => by
      have := z_regab hI ht hi
      unfold zab at this
      omega
    have fail : ∀ Mc : zM, (∀ a, a ≠ 7 → a ≠ 8 → Mc a = M a) → (zdg (M (2 + t)) 8 = 0 ∨ ¬ ∃ q, pdiv (pr 8 (M (2 + s))) (pr 8 (M (2 + t))) q) → Q 2 Mc := fun Mc hMc hbad => by
      refine hQ _ _ (s_Mo_divide (M0 := M) hI hr hs ht (fun _ M' f => ?_) (fun h0 M' f hq => ?_))
      · obtain ⟨j1, j2⟩ := z_joinX (M := M) (Mc := Mc) hI (fun a ha => hMc a (by omega) (by omega)) f 2
        exact z_th zpui_eq (fun h => absurd h (by decide)) (hk _ _ j1 j2)
      · exfalso
        rcases hbad with g | g
        · exact h0 g
        · exact g ⟨_, hq⟩
    have failX : ∀ Mc : zM, Q 2 Mc → (4 = 1 → Q 1 Mc) ∧ (4 = 4 → Q 2 Mc) ∧ (4 = 3 → Q 3 Mc) ∧ (4 = 1 ∨ 4 = 4 ∨ 4 = 3) := fun Mc h => ⟨fun g => absurd g (by decide), fun _ => h, fun g => absurd g (by decide), Or.inr (Or.inl rfl)⟩
    refine s_findQuotient (a0 := 2 + s) (a1 := 2 + t) (z_r8 hs) (z_r8 ht) (by decide) (by decide) (by omega) (by omega) (by omega) (by decide) (fun i hi => by have := z_regab hI hs hi; unfold zab at this; omega) (fun hb => ⟨fun g => absurd rfl g, fun _ => failX M (fail M (fun _ _ _ => rfl) ?_)⟩) (fun h0 _ Mc f hq => ⟨fun _ => ?_, fun g => absurd g (by decide)⟩) (fun h0 _ Mc f hq => ⟨fun g => absurd rfl g, fun _ => failX Mc (fail Mc f (Or.inr hq))⟩)
    · rcases hb with g | g
      · exact Or.inl g
      · exact absurd hwid g
    · obtain ⟨low, hl⟩ : ∃ low, zdg (M (2 + t)) 8 = low + 1 := ⟨zdg (M (2 + t)) 8 - 1, by omega⟩
      obtain ⟨g1, g2, g3⟩ := zdg_s hl
      have hb : pr 8 (M (2 + t)) low ≠ 0 := by
        rw [pr_lt g1]
        intro e
        exact g2 (by rw [← Int64.toInt_inj, e]; rfl)
      have hb0 : ∀ i, low < i → pr 8 (M (2 + t)) i = 0 := fun i hi => by
        rcases Nat.lt_or_ge i 8 with g | g
        · rw [pr_lt g, g3 i hi g]; rfl
        · exact pr_ge g
      refine z_endX (cc := 3) (c := 7) (a2 := 110) (n := 8) hr (by decide) (by decide) (by decide) (by decide) (by decide) hI hk (fun a ha => f a (by omega) (by omega)) (fun h => ⟨fun g => absurd g (by decide), fun g => absurd g (by decide), fun _ => h, Or.inr (Or.inr rfl)⟩) (fun q M2 _ hW => hQ _ _ (s_Mo_divide (M0 := M) hI hr hs ht (fun hbad M' f' => ?_) (fun _ M' f' hq' => ?_)))
      · exfalso
        rcases hbad with g | g
        · exact h0 g
        · exact g ⟨_, hq⟩
      · have hu := pdiv_unique hb hb0 hq' hq
        have he : ∀ i, i < 8 → M' 110 i = Mc 7 i := fun i hi => by
          have := hu i
          rw [pr_lt (by omega), pr_lt hi] at this
          exact Int64.toInt_inj.mp this
        have h0' : ∀ i, 8 ≤ i → i < 16 → M' 110 i = 0 := fun i a b => by
          have := hq'.2.1 i a
          rw [pr_lt b] at this
          rw [← Int64.toInt_inj, this]; rfl
        refine hW M' _ f' he ⟨fun g i hi => ?_, fun g i hi => ?_⟩ rfl
        · rcases Nat.lt_or_ge i 8 with g8 | g8
          · have := g i g8
            unfold zfo at this ⊢
            rw [he i g8]; exact this
          · exact ⟨fun h => by omega, fun _ => h0' i g8 hi⟩
        · have := g i (by omega)
          unfold zfo at this ⊢
          rw [← he i hi]; exact this
  · have hb : Q 1 M := by
      refine hQ _ _ ?_
      have hJ : J_Mo_divide_27 (fun r4 M5 N6 => zth K 1 r4 M5 N6) a1 a2 a3 1 M N := fun N4 e => by
        subst e
        rw [zpui_eq]
        exact ⟨fun h => absurd h (by decide), fun _ => z_th zpui_eq (fun h => absurd h (by decide)) (hk _ _ (z_reg0 hI 1) (z_kp0 1))⟩
      refine s_isReg (fun h1 => ⟨fun h => absurd h (by decide), fun _ => ?_⟩) (fun _ => ⟨fun _ => hJ, fun h => absurd rfl h⟩)
      refine s_isReg (fun h2 => ⟨fun h => absurd h (by decide), fun _ => ?_⟩) (fun _ => ⟨fun _ => hJ, fun h => absurd rfl h⟩)
      exact s_isReg (fun h3 => absurd ⟨h1, h2, h3⟩ h) (fun _ => ⟨fun _ => hJ, fun h => absurd rfl h⟩)
    have hX : (1 = 1 → Q 1 M) ∧ (1 = 4 → Q 2 M) ∧ (1 = 3 → Q 3 M) ∧ (1 = 1 ∨ 1 = 4 ∨ 1 = 3) := ⟨fun _ => hb, fun h => absurd h (by decide), fun h => absurd h (by decide), Or.inl rfl⟩
    exact s_reg (fun h1 => s_reg (fun h2 => s_reg (fun h3 => absurd ⟨h1, h2, h3⟩ h) (fun _ => hX)) (fun _ => hX)) (fun _ => hX)
