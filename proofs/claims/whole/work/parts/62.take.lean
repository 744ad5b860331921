/-! take. -/
def zthB (K : zM → zN → Prop) (r1 r4 : Int32) (M : zM) (N : zN) : Prop := w_Mo_thrown N (fun r7 => (r7 = r1 → (¬ r1 = 0 → K M N) ∧ (r1 = 0 → vp_in (0 : Int32) (zlong 119) ∧ (r4 = 0 → ((M 119 (0 : Int32).toNatClampNeg) = (0 : Int64) → K M N) ∧ (¬ (M 119 (0 : Int32).toNatClampNeg) = (0 : Int64) → False)) ∧ (¬ r4 = 0 → ((M 119 (0 : Int32).toNatClampNeg) = (1 : Int64) → K M N) ∧ (¬ (M 119 (0 : Int32).toNatClampNeg) = (1 : Int64) → False)))) ∧ (¬ r7 = r1 → False))
theorem z_thB {K : zM → zN → Prop} {r1 r4 : Int32} {M : zM} {N : zN} (h : N 99 0 = r1) (h2 : r1 = 0 → M 119 0 = if r4 = 0 then 0 else 1) (hk : K M N) : zthB K r1 r4 M N :=
  ⟨fun _ => ⟨fun _ => hk, fun e => ⟨z_o119, fun e4 => ⟨fun _ => hk, fun g => g (by have := h2 e; rw [if_pos e4] at this; exact this)⟩, fun e4 => ⟨fun _ => hk, fun g => g (by have := h2 e; rw [if_neg e4] at this; exact this)⟩⟩⟩, fun g => g h⟩
theorem s_Mo_take {P : Int32 → zM → zN → Prop} {r k : Nat} {M : zM} {N0 : zN} (hr : r < 4) (hk : k < 7) (q : ∀ M' : zM, (∀ a, a ≠ 108 → M' a = M a) → (∀ i, i < 8 → M' 108 i = M 102 (8 * k + i)) → (∀ i, 8 ≤ i → i < 16 → M' 108 i = 0) → w_Mo_fits 108 M' (fun r8 => (¬ r8 = 0 → w_Mo_keep (nI r) 108 M' N0 (fun r11 N13 => (r11 < 0 → narrow .boolean (.int (0 : Int32)) = .int (0 : Int32) ∧ P (0 : Int32) M' N13) ∧ (¬ r11 < 0 → narrow .boolean (.int (1 : Int32)) = .int (1 : Int32) ∧ P (1 : Int32) M' N13))) ∧ (r8 = 0 → narrow .boolean (.int (0 : Int32)) = .int (0 : Int32) ∧ P (0 : Int32) M' N0))) : ∃ n, L_Mo_take_39 P (nI r) (nI k) N0 n (0 : Int32) M := by
  have key : ∀ d j (M1 : zM), j + d = 16 → (∀ a, a ≠ 108 → M1 a = M a) → (∀ i, i < j → i < 8 → M1 108 i = M 102 (8 * k + i)) → (∀ i, i < j → 8 ≤ i → M1 108 i = 0) → ∃ n, L_Mo_take_39 P (nI r) (nI k) N0 n (nI j) M1 := by
    intro d
    induction d with
    | zero =>
      intro j M1 hj g1 g2 g3
      have : j = 16 := by omega
      subst this
      exact ⟨1, ⟨fun _ => q M1 g1 (fun i hi => g2 i (by omega) hi) (fun i a b => g3 i b a), fun h => absurd (by decide) h⟩⟩
    | succ d ih =>
      intro j M1 hj g1 g2 g3
      have h16 : ¬ (16 : Int32) ≤ nI j := (nI_ge (by omega) (by omega) : ¬ nI 16 ≤ nI j)
      have hin : vp_in (nI j) (zlong 108) := vp_in_nI (by show j < 16; omega) (by decide)
      by_cases h8 : 8 ≤ j
      · obtain ⟨n, hn⟩ := ih (j + 1) (zput M1 108 j 0) (by omega) (fun a ha => by rw [zput_ne ha]; exact g1 a ha) (fun i hi h => by rw [zput_n2 (by omega)]; exact g2 i (by omega) h) (fun i hi h => by
          by_cases e : i = j
          · subst e; rw [zput_eq]
          · rw [zput_n2 e]; exact g3 i (by omega) h)
        refine ⟨n + 1, ⟨fun h => absurd h h16, fun _ => ⟨fun _ => ⟨hin, fun M2 e => ?_⟩, fun h => absurd (nI_le h8 (by omega) : nI 8 ≤ nI j) h⟩⟩⟩
        rw [e, nI_clamp (by omega), nI_1]
        exact hn
      · obtain ⟨n, hn⟩ := ih (j + 1) (zput M1 108 j (M 102 (8 * k + j))) (by omega) (fun a ha => by rw [zput_ne ha]; exact g1 a ha) (fun i hi h => by
          by_cases e : i = j
          · subst e; rw [zput_eq]
          · rw [zput_n2 e]; exact g2 i (by omega) h) (fun i hi h => by omega)
        refine ⟨n + 1, ⟨fun h => absurd h h16, fun _ => ⟨fun h => absurd h (nI_ge (by omega) (by omega) : ¬ nI 8 ≤ nI j), fun _ => ⟨?_, hin, fun M2 e => ?_⟩⟩⟩⟩
        · rw [z_ix7]; exact vp_in_nI (by show 8 * k + j < 56; omega) (by decide)
        · rw [e, z_ix7, nI_clamp (by omega), nI_clamp (by omega), nI_1, g1 102 (by decide)]
          exact hn
  exact key 16 0 M rfl (fun _ _ => rfl) (fun i hi => by omega) (fun i hi => by omega)
theorem u_take {a1 a2 : Int32} {M : zM} {N : zN} {K : zM → zN → Prop} {Q : Int32 → zM → Prop} (hI : zreg M N) (hF : zfct M N) (hk : ∀ M' N', zreg M' N' → zkp M N M' N' → K M' N') (hQ : ∀ q M1, w_Mo_take a1 a2 M1 N (fun r4 M5 N6 => zthB K q r4 M5 N6) → Q q M1) : w_La_take a1 a2 M N Q := by
  obtain ⟨c, hc, h1, h2, h3, h4⟩ := hF
  have hJ : ∀ q : Int32, ¬ q ≤ 0 → J_Mo_take_25 (fun r4 M5 N6 => zthB K q r4 M5 N6) a1 a2 q M N := fun q hq N4 e => by
    subst e
    rw [zpui_eq]
    exact ⟨fun h => absurd h hq, fun _ => ⟨rfl, z_thB zpui_eq (fun h => absurd (by rw [h]; decide) hq) (hk _ _ (z_reg0 hI q) (z_kp0 q))⟩⟩
  refine s_reg (fun g1 => s_fac hc h1 (fun g2 => ?_) (fun g2 => ⟨fun h => absurd h (by decide), fun _ => hQ _ _ (s_isReg (fun _ => ⟨fun _ => s_noFac hc h2 (fun g => absurd g g2) (fun _ => ⟨fun h => absurd h (by decide), fun _ => hJ 2 (by decide)⟩), fun h => absurd h (by decide)⟩) (fun g => absurd g1 g)), Or.inr rfl⟩)) (fun g1 => ⟨fun _ => hQ _ _ (s_isReg (fun g => absurd g g1) (fun _ => ⟨fun h => absurd rfl h, fun _ => hJ 1 (by decide)⟩)), fun h => absurd h (by decide), Or.inl rfl⟩)
  obtain ⟨r, hr, rfl⟩ := g1
  obtain ⟨k, hk', rfl⟩ := g2
  obtain ⟨-, hrow, hdeg⟩ := h4 k hk'
  have model : ∀ (q : Int32) (M1 : zM), M1 102 = M 102 → (∀ M' : zM, (∀ a, a ≠ 108 → M' a = M1 a) → (∀ i, i < 8 → M' 108 i = M (81 + k) i) → (∀ i, 8 ≤ i → i < 16 → M' 108 i = 0) → w_Mo_fits 108 M' (fun r8 => (¬ r8 = 0 → w_Mo_keep (nI r) 108 M' (zpui N 99 0 0) (fun r11 N13 => (r11 < 0 → narrow .boolean (.int (0 : Int32)) = .int (0 : Int32) ∧ zthB K q 0 M' N13) ∧ (¬ r11 < 0 → narrow .boolean (.int (1 : Int32)) = .int (1 : Int32) ∧ zthB K q 1 M' N13))) ∧ (r8 = 0 → narrow .boolean (.int (0 : Int32)) = .int (0 : Int32) ∧ zthB K q 0 M' (zpui N 99 0 0)))) → Q q M1 := by
    intro q M1 hM1 hq
    refine hQ _ _ (s_isReg (fun _ => ⟨fun _ => s_noFac hc h2 (fun _ => ⟨fun _ N4 e => ?_, fun h => absurd rfl h⟩) (fun g => absurd ⟨k, hk', rfl⟩ g), fun h => absurd h (by decide)⟩) (fun g => absurd ⟨r, hr, rfl⟩ g))
    subst e
    rw [zpui_eq]
    refine ⟨fun _ => s_Mo_take hr (by omega) (fun M' f1 f2 f3 => hq M' f1 (fun i hi => by rw [f2 i hi, hM1, hrow i hi]) f3), fun h => absurd (by decide) h⟩
  refine ⟨(z_i7 (by omega)).2.2, ?_⟩
  rw [nI_clamp (by omega), nI_clamp (by omega)]
  have h81 : zlong (79 + 1 + 1 + k) = 8 := z_81 (by omega)
  refine s_within h81 (by decide) (by decide) (fun hF => ⟨fun _ => ⟨(z_i7 (by omega)).2.2, z_gn hr, by rw [h81]; decide, by have := z_r8 hr; rw [show 1 + 1 + r = 2 + r from rfl, this]; decide, fun M1 e1 => ⟨rfl, fun h => absurd h (by decide), fun _ => ⟨z_o119, fun M2 e2 => ?_⟩⟩⟩, fun h => absurd h (by decide)⟩) (fun hF => ⟨fun h => absurd rfl h, fun _ => ⟨rfl, fun _ => ⟨z_o119, fun M2 e2 => ?_⟩, fun h => absurd rfl h⟩⟩)
  · have hF : zfit (M (81 + k)) 8 := hF
    have e1 : M1 = zcpy M (81 + k) (2 + r) 0 0 8 := e1
    have e2 : M2 = zput M1 119 0 1 := e2
    refine model 0 M2 (by rw [e2, zput_ne (by decide), e1, zcpy_ne (by omega)]) (fun M' f1 f2 f3 => ?_)
    have hd : zdg (M' 108) 16 = zdg (M (81 + k)) 8 := by
      rw [zdg_up (n := 8) (by decide) f3]
      exact zdg_congr f2
    have hfit : zfit (M' 108) 16 := zfit16.mpr ⟨by rw [hd]; exact zdg_le _ _, zfit_congr (fun i hi => (f2 i hi).symm) hF⟩
    refine s_Mo_fits (by decide) (fun _ => ⟨fun _ => s_Mo_keep hr (by decide) (fun N' n1 n2 n3 => ?_), fun h => absurd h (by decide)⟩) (fun h => absurd hfit h)
    rw [hd]
    have hpos : ¬ nI (zdg (M (81 + k)) 8) + (-1) < 0 := by
      have : ∀ d, d < 9 → d ≠ 0 → ¬ nI d + (-1) < 0 := by decide
      exact this _ (by have := zdg_le (M (81 + k)) 8; omega) hdeg
    refine ⟨fun h => absurd h hpos, fun _ => ⟨rfl, ?_⟩⟩
    refine z_thB (by rw [n1 99 (by decide), zpui_eq]) (fun _ => by rw [f1 119 (by decide), e2, zput_eq]; rfl) (hk _ _ (fun r' i hr' hi => ?_) ⟨fun a x y => ?_, fun a x y => ?_, fun j hj => ?_⟩)
    · rw [f1 _ (by omega), e2, zput_ne (by omega), e1]
      by_cases e : r' = r
      · subst e
        have hv := (hF i hi).1 hi
        rw [zcpy8 hi, n2 i hi, f2 i hi, zx_i (by omega) (by omega)]
        exact ⟨(zx_il (by omega) (by omega)).symm, hv⟩
      · rw [zcpy_ne (by omega), n3 _ (fun j hj => by omega)]
        exact z_reg0 hI 0 r' i hr' hi
    · rw [f1 _ (by omega), e2, zput_ne (by omega), e1, zcpy_ne (by omega)]
    · rw [n1 a y, zpui_ne x]
    · rw [n1 99 (by decide), zpui_n2 hj]
  · have hF : ¬ zfit (M (81 + k)) 8 := hF
    have e2 : M2 = zput M 119 0 0 := e2
    refine model 0 M2 (by rw [e2, zput_ne (by decide)]) (fun M' f1 f2 f3 => ?_)
    refine s_Mo_fits (by decide) (fun h => absurd (zfit_congr f2 (zfit16.mp h).2) hF) (fun _ => ⟨fun h => absurd rfl h, fun _ => ⟨rfl, ?_⟩⟩)
    refine z_thB zpui_eq (fun _ => by rw [f1 119 (by decide), e2, zput_eq]; rfl) (hk _ _ (fun r' i hr' hi => ?_) ⟨fun a x y => ?_, (z_kp0 (M := M) 0).2⟩)
    · rw [f1 _ (by omega), e2]
      exact z_reg119 (z_reg0 hI 0) _ _ r' i hr' hi
    · rw [f1 _ (by omega), e2, zput_ne (by omega)]
