/-! derive, shift. -/
def zdv (f : Nat → Int64) (i : Nat) : Int64 := (nI (i + 1)).toInt64 * f (i + 1)
theorem s_Ro_slopeInto {P : zM → Prop} {a0 a1 : Nat} {M : zM} (h0 : 8 ≤ zlong a0) (h0' : zlong a0 < 100) (h1 : 8 ≤ zlong a1) (h1' : zlong a1 < 100) (hne : a0 ≠ a1) (k : ∀ M' : zM, (∀ a, a ≠ a1 → M' a = M a) → (∀ i, i < 7 → M' a1 i = zdv (M a0) i) → M' a1 7 = 0 → (∀ i, 8 ≤ i → M' a1 i = M a1 i) → P M') : w_Ro_slopeInto a0 a1 M P := by
  have key : ∀ d j (M1 : zM), j + d = 7 → (∀ a, a ≠ a1 → M1 a = M a) → (∀ i, i < j → M1 a1 i = zdv (M a0) i) → (∀ i, 8 ≤ i → M1 a1 i = M a1 i) → ∃ f, L_Ro_slopeInto_2 P a0 a1 f (nI (j + 1)) M1 := by
    intro d
    induction d with
    | zero =>
      intro j M1 hj g1 g2 g3
      have : j = 7 := by omega
      subst this
      refine ⟨1, ⟨fun _ => ⟨(vp_in_nI (n := 7) (by omega) (by omega) : vp_in (nI 7) _), fun M2 e => ?_⟩, fun h => absurd (by decide) h⟩⟩
      have e : M2 = zput M1 a1 7 0 := e
      subst e
      exact k _ (fun a ha => by rw [zput_ne ha]; exact g1 a ha) (fun i hi => by rw [zput_n2 (by omega)]; exact g2 i hi) zput_eq (fun i hi => by rw [zput_n2 (by omega)]; exact g3 i hi)
    | succ d ih =>
      intro j M1 hj g1 g2 g3
      obtain ⟨f, hf⟩ := ih (j + 1) (zput M1 a1 j (zdv (M a0) j)) (by omega) (fun a ha => by rw [zput_ne ha]; exact g1 a ha) (fun i hi => by
        by_cases e : i = j
        · subst e; rw [zput_eq]
        · rw [zput_n2 e]; exact g2 i (by omega)) (fun i hi => by rw [zput_n2 (by omega)]; exact g3 i hi)
      refine ⟨f + 1, ⟨fun h => absurd h (nI_ge (by omega) (by omega) : ¬ nI 8 ≤ nI (j + 1)), fun _ => ?_⟩⟩
      rw [nI_pred, nI_clamp (by omega), nI_clamp (by omega), nI_1]
      refine ⟨vp_in_nI (by omega) (by omega), vp_in_nI (by omega) (by omega), fun M2 e => ?_⟩
      rw [e, g1 a0 hne]
      exact hf
  exact key 7 0 M rfl (fun _ _ => rfl) (fun i hi => by omega) (fun _ _ => rfl)
theorem s_Mo_derivative {P : zM → Prop} {a0 a1 : Nat} {M : zM} (h0 : zlong a0 = 16) (h1 : zlong a1 = 16) (hne : a0 ≠ a1) (k : ∀ M' : zM, (∀ a, a ≠ a1 → M' a = M a) → (∀ i, i < 15 → M' a1 i = zdv (M a0) i) → M' a1 15 = 0 → P M') : w_Mo_derivative a0 a1 M P := by
  have key : ∀ d j (M1 : zM), j + d = 15 → (∀ a, a ≠ a1 → M1 a = M a) → (∀ i, i < j → M1 a1 i = zdv (M a0) i) → ∃ f, L_Mo_derivative_2 P a0 a1 f (nI j) M1 := by
    intro d
    induction d with
    | zero =>
      intro j M1 hj g1 g2
      have : j = 15 := by omega
      subst this
      refine ⟨1, ⟨fun _ => ⟨(vp_in_nI (n := 15) (by omega) (by omega) : vp_in (nI 15) _), fun M2 e => ?_⟩, fun h => absurd (by decide) h⟩⟩
      have e : M2 = zput M1 a1 15 0 := e
      subst e
      exact k _ (fun a ha => by rw [zput_ne ha]; exact g1 a ha) (fun i hi => by rw [zput_n2 (by omega)]; exact g2 i hi) zput_eq
    | succ d ih =>
      intro j M1 hj g1 g2
      obtain ⟨f, hf⟩ := ih (j + 1) (zput M1 a1 j (zdv (M a0) j)) (by omega) (fun a ha => by rw [zput_ne ha]; exact g1 a ha) (fun i hi => by
        by_cases e : i = j
        · subst e; rw [zput_eq]
        · rw [zput_n2 e]; exact g2 i (by omega))
      refine ⟨f + 1, ⟨fun h => absurd h (nI_ge (by omega) (by omega) : ¬ nI 15 ≤ nI j), fun _ => ?_⟩⟩
      rw [nI_1, nI_clamp (by omega), nI_clamp (by omega)]
      refine ⟨vp_in_nI (by omega) (by omega), vp_in_nI (by omega) (by omega), fun M2 e => ?_⟩
      rw [e, g1 a0 hne]
      exact hf
  exact key 15 0 M rfl (fun _ _ => rfl) (fun i hi => by omega)
theorem u_derive {a1 a2 : Int32} {M : zM} {N : zN} {K : zM → zN → Prop} {Q : Int32 → zM → Prop} (hI : zreg M N) (hk : ∀ M' N', zreg M' N' → zkp M N M' N' → K M' N') (hQ : ∀ q M1, w_Mo_derive a1 a2 M1 N (fun r4 M5 N6 => zth K q r4 M5 N6) → Q q M1) : w_La_derive a1 a2 M Q := by
  by_cases h : zR a1 4 ∧ zR a2 4
  · obtain ⟨⟨r, hr, rfl⟩, ⟨s, hs, rfl⟩⟩ := h
    refine s_reg (fun _ => s_reg (fun _ => ?_) (fun h => absurd ⟨s, hs, rfl⟩ h)) (fun h => absurd ⟨r, hr, rfl⟩ h)
    refine s_Ar_fillJ (n := 16) (by decide) (by decide) (by decide) (fun M0 f1 f2 => ⟨z_gn hs, ?_⟩)
    rw [nI_clamp (by omega)]
    refine s_Ro_slopeInto (by rw [z_r8 hs]; omega) (by rw [z_r8 hs]; omega) (by decide) (by decide) (by omega) (fun Mc c1 c2 c3 c4 => ?_)
    refine z_end (a2 := 108) hr (by decide) (by decide) hI hk (fun a ha => by rw [c1 a (by omega), f1 a (by omega)]) (fun q M2 _ hW => hQ _ _ ?_)
    refine s_isReg (fun _ => ⟨fun h => absurd h (by decide), fun _ => ?_⟩) (fun h => absurd ⟨r, hr, rfl⟩ h)
    refine s_isReg (fun _ => ⟨fun h => absurd h (by decide), fun _ => ?_⟩) (fun h => absurd ⟨s, hs, rfl⟩ h)
    intro N0 e0
    have hz : N0 99 0 = 0 := by rw [e0, zpui_eq]
    have hzl : ∀ q, zld N0 q = zld N q := fun q => by rw [e0]; unfold zld; rw [zpui_ne (by decide)]
    rw [hz]
    refine ⟨fun _ => ?_, fun h => absurd (by decide) h⟩
    refine s_Mo_load hs (by decide) (fun Ma a1 a2 => s_Mo_derivative (by decide) (by decide) (by decide) (fun Mb b1 b2 b3 => ?_))
    refine hW Mb N0 (fun a ha => by rw [b1 a (by omega), a1 a (by omega)]) (fun i hi => ?_) e0
    have hv : ∀ j, j < 16 → Ma 106 j = zld N s j := fun j hj => by rw [a2 j hj, hzl]
    by_cases g : i = 15
    · rw [g, b3, c4 15 (by decide), f2 15 (by decide)]
    · rw [b2 i (by omega)]
      unfold zdv
      rw [hv _ (by omega)]
      rcases Nat.lt_or_ge i 7 with g7 | g7
      · rw [c2 i g7, z_ld hI hs (by omega)]
        unfold zdv
        rw [f1 _ (by omega)]
      · rw [z_ld0 (by omega), Int64.mul_zero]
        by_cases e7 : i = 7
        · rw [e7, c3]
        · rw [c4 i (by omega), f2 i hi]
  · have hb : Q 1 M := by
      refine hQ _ _ ?_
      have hJ : J_Mo_derive_20 (fun r4 M5 N6 => zth K 1 r4 M5 N6) a1 a2 1 M N := fun N4 e => by
        subst e
        rw [zpui_eq]
        exact ⟨fun h => absurd h (by decide), fun _ => z_th zpui_eq (fun h => absurd h (by decide)) (hk _ _ (z_reg0 hI 1) (z_kp0 1))⟩
      refine s_isReg (fun h1 => ⟨fun h => absurd h (by decide), fun _ => ?_⟩) (fun _ => ⟨fun _ => hJ, fun h => absurd rfl h⟩)
      exact s_isReg (fun h3 => absurd ⟨h1, h3⟩ h) (fun _ => ⟨fun _ => hJ, fun h => absurd rfl h⟩)
    have hX : (1 = 1 → Q 1 M) ∧ (1 = 3 → Q 2 M) ∧ (1 = 1 ∨ 1 = 3) := ⟨fun _ => hb, fun h => absurd h (by decide), Or.inl rfl⟩
    exact s_reg (fun h1 => s_reg (fun h3 => absurd ⟨h1, h3⟩ h) (fun _ => hX)) (fun _ => hX)
/-- value's rows -/
def znr (x : Int32) : Prop := ¬ x < (-9 : Int32) ∧ x ≤ (9 : Int32)
theorem s_near {a : Int32} {P : Prop} {X : Nat → Prop} (hP : znr a → P) (hX : ¬ znr a → X 2) : w_IS_requireNear a P X :=
  ⟨fun h => hX (fun g => g.1 h), fun h => ⟨fun h2 => hP ⟨h, h2⟩, fun h2 => hX (fun g => h2 g.2)⟩⟩
/-- value at a, from the place n - 1 down -/
def zhv (f : Nat → Int64) (a : Int64) : Nat → Int64 → Int64
  | 0, x => x
  | n + 1, x => zhv f a n (x * a + f n)
theorem zhv_congr {f g : Nat → Int64} {a : Int64} : ∀ n x, (∀ i, i < n → f i = g i) → zhv f a n x = zhv g a n x
  | 0, _, _ => rfl
  | n + 1, x, h => by
    unfold zhv
    rw [h n (by omega)]
    exact zhv_congr n _ (fun i hi => h i (by omega))
theorem s_La_value {a1 a2 : Int32} {M : zM} {Q : Int32 → zM → Prop} (bad : ¬ zR a1 4 → Q 1 M) (bad2 : zR a1 4 → ¬ znr a2 → Q 2 M) (good : ∀ r, r < 4 → a1 = nI r → znr a2 → ∀ M', M' = zput M 119 0 (zhv (M (2 + r)) a2.toInt64 8 0) → Q 0 M') : w_La_value a1 a2 M Q := by
  refine s_reg (fun h1 => s_near (fun h2 => ?_) (fun h2 => ⟨fun h => absurd h (by decide), fun _ => bad2 h1 h2, Or.inr rfl⟩)) (fun h1 => ⟨fun _ => bad h1, fun h => absurd h (by decide), Or.inl rfl⟩)
  obtain ⟨r, hr, rfl⟩ := h1
  have key : ∀ j x, j ≤ 8 → zhv (M (2 + r)) a2.toInt64 j x = zhv (M (2 + r)) a2.toInt64 8 0 → ∃ n, L_IS_value_14 (fun r1 => vp_in (0 : Int32) (zlong 119) ∧ ∀ M4 : zM, M4 = zput M 119 (0 : Int32).toNatClampNeg r1 → Q (0 : Int32) M4) (fun k => (k = 1 → Q (1 : Int32) M) ∧ (k = 2 → Q (2 : Int32) M) ∧ (k = 1 ∨ k = 2)) (nI r) a2 M n x (nI j + (-1)) := by
    intro j
    induction j with
    | zero =>
      intro x _ hx
      refine ⟨1, ⟨fun _ => ⟨z_o119, fun M4 e => good r hr rfl h2 M4 ?_⟩, fun h => absurd (by decide) h⟩⟩
      rw [e, ← hx]; rfl
    | succ j ih =>
      intro x hj hx
      obtain ⟨n, hn⟩ := ih (x * a2.toInt64 + M (2 + r) j) (by omega) hx
      refine ⟨n + 1, ?_⟩
      rw [pk_m1]
      refine ⟨fun h => absurd h (nI_pos (by omega)), fun _ => ⟨z_gn hr, ?_⟩⟩
      rw [nI_clamp (by omega), nI_clamp (by omega)]
      refine ⟨z_l8 hr (by omega), fun x1 e => ?_⟩
      rw [e]; exact hn
  exact key 8 0 (by decide) rfl
