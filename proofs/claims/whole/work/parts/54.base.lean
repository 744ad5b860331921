/-! fits, keep, settle, and the end that most calls share. -/
theorem s_Mo_fits {P : Int32 → Prop} {a0 : Nat} {M : zM} (hz : zlong a0 = 16) (h1 : zfit (M a0) 16 → P 1) (h2 : ¬ zfit (M a0) 16 → P 0) : w_Mo_fits a0 M P := by
  have keyA : P 0 → ∀ d j, j + d = 8 → ∃ f, L_Mo_fits_17 P a0 M f 0 (nI j) := by
    intro hP d
    induction d with
    | zero =>
      intro j hj
      have : j = 8 := by omega
      subst this
      exact ⟨1, ⟨fun _ => ⟨rfl, hP⟩, fun h => absurd (by decide) h⟩⟩
    | succ d ih =>
      intro j hj
      obtain ⟨f, hf⟩ := ih (j + 1) (by omega)
      refine ⟨f + 1, ⟨fun h => absurd h (nI_ge (by omega) (by omega) : ¬ nI 8 ≤ nI j), fun _ => ⟨fun _ => ?_, fun h => absurd rfl h⟩⟩⟩
      rw [nI_1]; exact hf
  have keyB : zdg (M a0) 16 ≤ 8 → ∀ d j, j + d = 8 → zfit (M a0) j → ∃ f, L_Mo_fits_17 P a0 M f 1 (nI j) := by
    intro hd d
    induction d with
    | zero =>
      intro j hj hF
      have : j = 8 := by omega
      subst this
      exact ⟨1, ⟨fun _ => ⟨rfl, h1 (zfit16.mpr ⟨hd, hF⟩)⟩, fun h => absurd (by decide) h⟩⟩
    | succ d ih =>
      intro j hj hF
      have hin : vp_in (nI j) (zlong a0) := by rw [hz]; exact vp_in_nI (by omega) (by omega)
      have hcl : (nI j).toNatClampNeg = j := nI_clamp (by omega)
      have hge : ¬ (8 : Int32) ≤ nI j := (nI_ge (by omega) (by omega) : ¬ nI 8 ≤ nI j)
      by_cases hf : zfo (M a0) j
      · obtain ⟨f, hL⟩ := ih (j + 1) (by omega) (fun i hi => by
          by_cases e : i = j
          · subst e; exact hf
          · exact hF i (by omega))
        have hv := hf.1 (by omega)
        refine ⟨f + 1, ⟨fun h => absurd h hge, fun _ => ⟨fun h => absurd h (by decide), fun _ => ⟨hin, fun g => ?_, fun _ => ⟨hin, fun g => ?_, fun _ => ?_⟩⟩⟩⟩⟩
        · rw [hcl, Int64.lt_iff_toInt_lt, z_99.2.1] at g; omega
        · rw [hcl, Int64.lt_iff_toInt_lt, z_99.1] at g; omega
        · rw [nI_1]; exact hL
      · have hP : P 0 := h2 (fun h => hf (h j (by omega)))
        obtain ⟨f, hL⟩ := keyA hP d (j + 1) (by omega)
        refine ⟨f + 1, ⟨fun h => absurd h hge, fun _ => ⟨fun h => absurd h (by decide), fun _ => ⟨hin, fun _ => ?_, fun g => ⟨hin, fun _ => ?_, fun g2 => ?_⟩⟩⟩⟩⟩
        · rw [nI_1]; exact hL
        · rw [nI_1]; exact hL
        · exfalso
          rw [hcl, Int64.lt_iff_toInt_lt, z_99.2.1] at g
          rw [hcl, Int64.lt_iff_toInt_lt, z_99.1] at g2
          exact hf ⟨fun _ => by omega, fun h => by omega⟩
  have hle := zdg_le (M a0) 16
  refine s_Mo_degreeOf hz ⟨fun h => ?_, fun h => ?_⟩
  · refine keyA (h2 (fun hF => ?_)) 8 0 rfl
    have hd := (zfit16.mp hF).1
    have : nI (zdg (M a0) 16) + (-1) < 8 := by
      have : ∀ d, d < 9 → nI d + (-1) < 8 := by decide
      exact this _ (by omega)
    exact absurd h (Int32.not_le.mpr this)
  · refine keyB ?_ 8 0 rfl (fun i hi => by omega)
    rcases Nat.lt_or_ge (zdg (M a0) 16) 9 with a | a
    · omega
    · exfalso
      have : ∀ d, d < 17 → 9 ≤ d → (8 : Int32) ≤ nI d + (-1) := by decide
      exact h (this _ (by omega) a)
theorem s_keep {P : Int32 → zM → Prop} {X : Nat → zM → Prop} {r a2 n : Nat} {M : zM} (hr : r < 4) (hz : zlong a2 = n) (h8 : 8 ≤ n) (hn : n < 100) (good : zfit (M a2) n → ∀ M', M' = zcpy M a2 (2 + r) 0 0 8 → P (nI (zdg (M' (2 + r)) 8) + (-1)) M') (bad : ¬ zfit (M a2) n → X 3 M) : w_IS_keep (nI r) a2 M P X := by
  refine s_within hz (by omega) hn (fun h => ⟨fun _ => ⟨z_gn hr, ?_⟩, fun g => absurd g (by decide)⟩) (fun h => ⟨fun g => absurd rfl g, fun _ => bad h⟩)
  rw [nI_clamp (by omega)]
  exact ⟨by omega, by rw [z_r8 hr]; omega, fun M1 e => ⟨z_gn hr, s_Ro_degreeOf (z_r8 hr) (by decide) (by decide) (good h M1 e)⟩⟩
theorem s_Mo_keep {P : Int32 → zN → Prop} {r a2 : Nat} {M : zM} {N : zN} (hr : r < 4) (hz : zlong a2 = 16) (k : ∀ N' : zN, (∀ a, a ≠ 100 → N' a = N a) → (∀ i, i < 8 → N' 100 (8 * r + i) = (M a2 i).toInt32) → (∀ q, (∀ i, i < 8 → q ≠ 8 * r + i) → N' 100 q = N 100 q) → P (nI (zdg (M a2) 16) + (-1)) N') : w_Mo_keep (nI r) a2 M N P := by
  have key : ∀ d j (N1 : zN), j + d = 8 → (∀ a, a ≠ 100 → N1 a = N a) → (∀ i, i < j → N1 100 (8 * r + i) = (M a2 i).toInt32) → (∀ q, (∀ i, i < 8 → q ≠ 8 * r + i) → N1 100 q = N 100 q) → ∃ f, L_Mo_keep_2 P (nI r) a2 M f (nI j) N1 := by
    intro d
    induction d with
    | zero =>
      intro j N1 hj g1 g2 g3
      have : j = 8 := by omega
      subst this
      exact ⟨1, ⟨fun _ => s_Mo_degreeOf hz (k N1 g1 g2 g3), fun h => absurd (by decide) h⟩⟩
    | succ d ih =>
      intro j N1 hj g1 g2 g3
      obtain ⟨f, hf⟩ := ih (j + 1) (zpui N1 100 (8 * r + j) (M a2 j).toInt32) (by omega) (fun a ha => by rw [zpui_ne ha]; exact g1 a ha) (fun i hi => by
        by_cases e : i = j
        · subst e; rw [zpui_eq]
        · rw [zpui_n2 (by omega)]; exact g2 i (by omega)) (fun q hq => by
        rw [zpui_n2 (hq j (by omega))]; exact g3 q hq)
      refine ⟨f + 1, ⟨fun h => absurd h (nI_ge (by omega) (by omega) : ¬ nI 8 ≤ nI j), fun _ => ⟨by rw [hz]; exact vp_in_nI (by omega) (by omega), ?_, fun N4 e => ?_⟩⟩⟩
      · rw [z_ix hr (by omega)]; exact vp_in_nI (by show 8 * r + j < 32; omega) (by decide)
      · rw [e, z_ix hr (by omega), nI_clamp (by omega), nI_clamp (by omega), nI_1]
        exact hf
  exact key 8 0 N rfl (fun _ _ => rfl) (fun i hi => by omega) (fun _ _ => rfl)
theorem s_Mo_settle {P : Int32 → zN → Prop} {r a2 : Nat} {a3 : Int32} {M : zM} {N : zN} (hr : r < 4) (hz : zlong a2 = 16) (ha3 : ¬ a3 ≤ 0) (good : zfit (M a2) 16 → ∀ N' : zN, N' 99 0 = 0 → (∀ j, j ≠ 0 → N' 99 j = N 99 j) → (∀ a, a ≠ 99 → a ≠ 100 → N' a = N a) → (∀ i, i < 8 → N' 100 (8 * r + i) = (M a2 i).toInt32) → (∀ q, (∀ i, i < 8 → q ≠ 8 * r + i) → N' 100 q = N 100 q) → P (nI (zdg (M a2) 16) + (-1)) N') (bad : ¬ zfit (M a2) 16 → P 0 (zpui N 99 0 a3)) : w_Mo_settle (nI r) a2 a3 M N P := by
  refine s_Mo_fits hz (fun h => ⟨fun g => absurd g (by decide), fun _ N4 e => ?_⟩) (fun h => ⟨fun _ N4 e => ?_, fun g => absurd rfl g⟩)
  · subst e
    rw [zpui_eq]
    refine ⟨fun _ => s_Mo_keep hr hz (fun N' g1 g2 g3 => good h N' (by rw [g1 99 (by decide), zpui_eq]) (fun j hj => by rw [g1 99 (by decide), zpui_n2 hj]) (fun a h1 h2 => by rw [g1 a h2, zpui_ne h1]) g2 (fun q hq => by rw [g3 q hq, zpui_ne (by decide)])), fun g => absurd (by decide) g⟩
  · subst e
    rw [zpui_eq]
    exact ⟨fun g => absurd g ha3, fun _ => bad h⟩
/-- the law's wrapper after keep -/
theorem s_La_keep {Q : Int32 → zM → Prop} {r a2 n : Nat} {M : zM} (hr : r < 4) (hz : zlong a2 = n) (h8 : 8 ≤ n) (hn : n < 100) (good : zfit (M a2) n → ∀ M', M' = zput (zcpy M a2 (2 + r) 0 0 8) 119 0 (nI (zdg (M a2) 8) + (-1)).toInt64 → Q 0 M') (bad : ¬ zfit (M a2) n → Q 2 M) : w_IS_keep (nI r) a2 M (fun r1 M2 => vp_in (0 : Int32) (zlong 119) ∧ ∀ M4 : zM, M4 = zput M2 119 (0 : Int32).toNatClampNeg r1.toInt64 → Q (0 : Int32) M4) (fun k M5 => (k = 1 → Q (1 : Int32) M5) ∧ (k = 3 → Q (2 : Int32) M5) ∧ (k = 1 ∨ k = 3)) := by
  refine s_keep hr hz h8 hn (fun h M1 e => ⟨z_o119, fun M4 e4 => ?_⟩) (fun h => ⟨fun g => absurd g (by decide), fun _ => bad h, Or.inr rfl⟩)
  refine good h M4 ?_
  have hd : zdg (M1 (2 + r)) 8 = zdg (M a2) 8 := by
    refine zdg_congr (fun i hi => ?_)
    rw [e, zcpy_at]
    unfold va_cpy
    simp [hi]
  rw [e4, hd, e]
  rfl
