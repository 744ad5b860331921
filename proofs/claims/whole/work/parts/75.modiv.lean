/-! The reference's division: inner loops. -/
theorem s_Mo_copy {P : zM → Prop} {a0 a1 : Nat} {M : zM} (h0 : zlong a0 = 16) (h1 : zlong a1 = 16) (hne : a0 ≠ a1) (k : ∀ M' : zM, (∀ a, a ≠ a1 → M' a = M a) → (∀ i, i < 16 → M' a1 i = M a0 i) → P M') : w_Mo_copy a0 a1 M P := by
  have key : ∀ d j (M1 : zM), j + d = 16 → (∀ a, a ≠ a1 → M1 a = M a) → (∀ i, i < j → M1 a1 i = M a0 i) → ∃ f, L_Mo_copy_2 P a0 a1 f (nI j) M1 := by
    intro d
    induction d with
    | zero =>
      intro j M1 hj g1 g2
      have : j = 16 := by omega
      subst this
      exact ⟨1, ⟨fun _ => k M1 g1 g2, fun h => absurd (by decide) h⟩⟩
    | succ d ih =>
      intro j M1 hj g1 g2
      obtain ⟨f, hf⟩ := ih (j + 1) (zput M1 a1 j (M a0 j)) (by omega) (fun a ha => by rw [zput_ne ha]; exact g1 a ha) (fun i hi => by
        by_cases e : i = j
        · subst e; rw [zput_eq]
        · rw [zput_n2 e]; exact g2 i (by omega))
      refine ⟨f + 1, ⟨fun h => absurd h (nI_ge (by omega) (by omega) : ¬ nI 16 ≤ nI j), fun _ => ⟨by rw [h0]; exact vp_in_nI (by omega) (by decide), by rw [h1]; exact vp_in_nI (by omega) (by decide), fun M2 e => ?_⟩⟩⟩
      rw [e, nI_clamp (by omega), nI_1, g1 a0 hne]
      exact hf
  exact key 16 0 M rfl (fun _ _ => rfl) (fun i hi => by omega)
theorem s_modiv115 {P : Int32 → zM → Prop} {K : Int32 → zM → Prop} {a1 low k : Nat} {t : Int64} {M : zM} (h1 : zlong a1 = 16) (hne : a1 ≠ 109) (hk : k + low < 16) (q : ∀ M' : zM, (∀ a, a ≠ 109 → M' a = M a) → (∀ i, M' 109 i = if k ≤ i ∧ i ≤ k + low then M 109 i - t * M a1 (i - k) else M 109 i) → K (nI k + (-1)) M') : ∃ n, L_Mo_divides_115 P K a1 (nI low) (nI k) t n (0 : Int32) M := by
  have key : ∀ d j (M1 : zM), j + d = low + 1 → (∀ a, a ≠ 109 → M1 a = M a) → (∀ i, M1 109 i = if k ≤ i ∧ i < k + j then M 109 i - t * M a1 (i - k) else M 109 i) → ∃ n, L_Mo_divides_115 P K a1 (nI low) (nI k) t n (nI j) M1 := by
    intro d
    induction d with
    | zero =>
      intro j M1 hj g1 g2
      have : j = low + 1 := by omega
      subst this
      refine ⟨1, ⟨fun _ => q M1 g1 (fun i => ?_), fun h => absurd (nI_lt (by omega) (by omega)) h⟩⟩
      rw [g2 i]
      by_cases e : k ≤ i ∧ i ≤ k + low
      · rw [if_pos e, if_pos ⟨e.1, by omega⟩]
      · rw [if_neg e, if_neg (fun h => e ⟨h.1, by omega⟩)]
    | succ d ih =>
      intro j M1 hj g1 g2
      obtain ⟨n, hn⟩ := ih (j + 1) (zput M1 109 (k + j) (M1 109 (k + j) - t * M a1 j)) (by omega) (fun a ha => by rw [zput_ne ha]; exact g1 a ha) (fun i => by
        by_cases e : i = k + j
        · subst e
          rw [zput_eq, g2, if_neg (fun h => by omega), if_pos ⟨by omega, by omega⟩, show k + j - k = j by omega]
        · rw [zput_n2 e, g2 i]
          by_cases e2 : k ≤ i ∧ i < k + j
          · rw [if_pos e2, if_pos ⟨e2.1, by omega⟩]
          · rw [if_neg e2, if_neg (fun h => e2 ⟨h.1, by omega⟩)])
      refine ⟨n + 1, ⟨fun h => absurd h (nI_nlt (by omega) (by omega)), fun _ => ?_⟩⟩
      rw [nI_add, nI_clamp (by omega), nI_clamp (by omega), nI_1]
      have hin : vp_in (nI (k + j)) (zlong 109) := vp_in_nI (by show k + j < 16; omega) (by decide)
      refine ⟨hin, by rw [h1]; exact vp_in_nI (by omega) (by decide), hin, fun M2 e => ?_⟩
      rw [e, g1 a1 hne]
      exact hn
  exact key (low + 1) 0 M (by omega) (fun _ _ => rfl) (fun i => by rw [if_neg (fun h => by omega)])
