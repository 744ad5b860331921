/-! The class's division. -/
theorem z_1e8 : (100000000 : Int64).toInt = 100000000 ∧ (-100000000 : Int64).toInt = -100000000 := by decide
def zwid (f : Nat → Int64) (n : Nat) : Prop := ∀ i, i < n → -100000000 ≤ (f i).toInt ∧ (f i).toInt ≤ 100000000
theorem s_isWide {P : Int32 → Prop} {a0 n : Nat} {M : zM} (hz : zlong a0 = n) (h0 : 0 < n) (hn : n < 100) (h1 : zwid (M a0) n → P 0) (h2 : ¬ zwid (M a0) n → P 1) : w_Ro_isWide a0 M P := by
  have key : ∀ d j, j + d = n → zwid (M a0) j → ∃ f, L_Ro_isWide_2 P a0 M f (nI j) := by
    intro d
    induction d with
    | zero =>
      intro j hj hF
      have : j = n := by omega
      subst this
      refine ⟨1, ⟨by omega, fun _ => ⟨rfl, h1 hF⟩, fun h => absurd ?_ h⟩⟩
      rw [hz]
      exact nI_le (Nat.le_refl _) (by omega)
    | succ d ih =>
      intro j hj hF
      have hin : vp_in (nI j) (zlong a0) := by rw [hz]; exact vp_in_nI (by omega) (by omega)
      have hcl : (nI j).toNatClampNeg = j := nI_clamp (by omega)
      have hno : ∀ Y : Prop, Int32.ofNat (zlong a0) ≤ nI j → Y := fun Y h => by
        rw [hz] at h
        exact absurd h (nI_ge (by omega) (by omega))
      by_cases hf : -100000000 ≤ (M a0 j).toInt ∧ (M a0 j).toInt ≤ 100000000
      · obtain ⟨f, hL⟩ := ih (j + 1) (by omega) (fun i hi => by
          by_cases e : i = j
          · subst e; exact hf
          · exact hF i (by omega))
        refine ⟨f + 1, ⟨by omega, hno _, fun _ => ⟨hin, ?_⟩⟩⟩
        rw [hcl, nI_1]
        refine ⟨fun g => ?_, fun _ => ⟨hin, fun _ => hL, fun g => ?_⟩⟩
        · rw [Int64.lt_iff_toInt_lt, z_1e8.2] at g; omega
        · rw [Int64.le_iff_toInt_le, z_1e8.1] at g; omega
      · have hb : P 1 := h2 (fun h => hf (h j (by omega)))
        refine ⟨1, ⟨by omega, hno _, fun _ => ⟨hin, ?_⟩⟩⟩
        rw [hcl]
        refine ⟨fun _ => ⟨rfl, hb⟩, fun g => ⟨hin, fun g2 => ?_, fun _ => ⟨rfl, hb⟩⟩⟩
        rw [Int64.lt_iff_toInt_lt, z_1e8.2] at g
        rw [Int64.le_iff_toInt_le, z_1e8.1] at g2
        exact absurd ⟨by omega, g2⟩ hf
  exact key n 0 (by omega) (fun i hi => by omega)
/-- the inner loop: t times b is taken from the rest at the places k .. k + low -/
theorem s_quot79 {P : Int32 → zM → Prop} {K : Int32 → zM → Prop} {a1 a2 a3 low k : Nat} {t : Int64} {M : zM} (h1 : zlong a1 = 8) (h3 : zlong a3 = 8) (hne : a1 ≠ a3) (hk : k + low < 8) (q : ∀ M' : zM, (∀ a, a ≠ a3 → M' a = M a) → (∀ i, M' a3 i = if k ≤ i ∧ i ≤ k + low then M a3 i - t * M a1 (i - k) else M a3 i) → B_Ro_findQuotient_79 P K a1 a2 a3 (nI low) (nI k) t (fun _ _ => False) (nI (low + 1)) M') : ∃ n, L_Ro_findQuotient_79 P K a1 a2 a3 (nI low) (nI k) t n (0 : Int32) M := by
  have key : ∀ d j (M1 : zM), j + d = low + 1 → (∀ a, a ≠ a3 → M1 a = M a) → (∀ i, M1 a3 i = if k ≤ i ∧ i < k + j then M a3 i - t * M a1 (i - k) else M a3 i) → ∃ n, L_Ro_findQuotient_79 P K a1 a2 a3 (nI low) (nI k) t n (nI j) M1 := by
    intro d
    induction d with
    | zero =>
      intro j M1 hj g1 g2
      have : j = low + 1 := by omega
      subst this
      refine ⟨1, q M1 g1 (fun i => ?_)⟩
      rw [g2 i]
      by_cases e : k ≤ i ∧ i ≤ k + low
      · rw [if_pos e, if_pos ⟨e.1, by omega⟩]
      · rw [if_neg e, if_neg (fun h => e ⟨h.1, by omega⟩)]
    | succ d ih =>
      intro j M1 hj g1 g2
      obtain ⟨n, hn⟩ := ih (j + 1) (zput M1 a3 (k + j) (M1 a3 (k + j) - t * M a1 j)) (by omega) (fun a ha => by rw [zput_ne ha]; exact g1 a ha) (fun i => by
        by_cases e : i = k + j
        · subst e
          rw [zput_eq, g2, if_neg (fun h => by omega), if_pos ⟨by omega, by omega⟩, show k + j - k = j by omega]
        · rw [zput_n2 e, g2 i]
          by_cases e2 : k ≤ i ∧ i < k + j
          · rw [if_pos e2, if_pos ⟨e2.1, by omega⟩]
          · rw [if_neg e2, if_neg (fun h => e2 ⟨h.1, by omega⟩)])
      refine ⟨n + 1, ⟨fun h => absurd h (nI_nlt (by omega) (by omega)), fun _ => ?_⟩⟩
      rw [nI_add, nI_clamp (by omega), nI_clamp (by omega), nI_1]
      have hin : vp_in (nI (k + j)) (zlong a3) := by rw [h3]; exact vp_in_nI (by omega) (by decide)
      refine ⟨hin, by rw [h1]; exact vp_in_nI (by omega) (by decide), hin, fun M2 e => ?_⟩
      rw [e, g1 a1 hne]
      exact hn
  exact key (low + 1) 0 M (by omega) (fun _ _ => rfl) (fun i => by rw [if_neg (fun h => by omega)])
