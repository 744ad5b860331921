/-! shift. -/
theorem s_IS_shift {r s : Nat} {a3 : Int32} {M : zM} {P : Int32 → zM → Prop} {X : Nat → zM → Prop} {f : Nat → Int64} (hr : r < 4) (hs : s < 4) (h3 : znr a3) (hf : ∀ i, i < 8 → f i = M (2 + s) i) (k : ∀ Mc : zM, (∀ a, a ≠ 6 → Mc a = M a) → (∀ i, i < 16 → Mc 6 i = zsh f a3.toInt64 8 i) → w_IS_keep (nI r) 6 Mc (fun r19 M20 => P r19 M20) (fun k M22 => X k M22)) : w_IS_shift (nI r) (nI s) a3 M P X := by
  refine s_reg (fun _ => s_reg (fun _ => s_near (fun _ => ?_) (fun h => absurd h3 h)) (fun h => absurd ⟨s, hs, rfl⟩ h)) (fun h => absurd ⟨r, hr, rfl⟩ h)
  refine s_Ar_fillJ (n := 16) (by decide) (by decide) (by decide) (fun M0 f1 f2 => ?_)
  have key : ∀ d t (M1 : zM), t + d = 8 → (∀ a, a ≠ 6 → M1 a = M a) → (∀ i, i < 16 → M1 6 i = zsh f a3.toInt64 t i) → L_IS_shift_24 P X (nI r) (nI s) a3 (d + 1) (nI d + (-1)) M1 := by
    intro d
    induction d with
    | zero =>
      intro t M1 ht h1 h2
      have : t = 8 := by omega
      subst this
      exact ⟨fun _ => k M1 h1 h2, fun h => absurd (by decide) h⟩
    | succ d ih =>
      intro t M1 ht h1 h2
      have h7 : 7 - t = d := by omega
      rw [pk_m1]
      refine ⟨fun h => absurd h (nI_pos (by omega)), fun _ => ?_⟩
      have inner : ∀ e (M2 : zM), e ≤ 7 → (∀ a, a ≠ 6 → M2 a = M a) → (∀ q, q < 16 → M2 6 q = if e < q then zsh f a3.toInt64 (t + 1) q else zsh f a3.toInt64 t q) → ∃ n, L_IS_shift_33 P X (L_IS_shift_24 P X (nI r) (nI s) a3 (d + 1)) (nI r) (nI s) a3 (nI d) n (nI e) M2 := by
        intro e
        induction e with
        | zero =>
          intro M2 _ g1 g2
          refine ⟨1, ⟨fun _ => ⟨vp_in_nI (n := 0) (N := 16) (by decide) (by decide), z_gn hs, ?_⟩, fun h => absurd (by decide) h⟩⟩
          rw [nI_clamp (by omega), nI_clamp (by omega)]
          refine ⟨z_l8 hs (by omega), vp_in_nI (n := 0) (N := 16) (by decide) (by decide), fun M3 e3 => ?_⟩
          have e3 : M3 = zput M2 6 0 (M2 6 0 * a3.toInt64 + M2 (2 + s) d) := e3
          subst e3
          refine ih (t + 1) _ (by omega) (fun a ha => by rw [zput_ne ha]; exact g1 a ha) (fun q hq => ?_)
          by_cases e0 : q = 0
          · subst e0
            rw [zput_eq, g2 0 (by decide), if_neg (by decide), g1 _ (by omega), ← hf d (by omega)]
            show _ = zsh f a3.toInt64 t 0 * a3.toInt64 + f (7 - t)
            rw [h7]
          · rw [zput_n2 e0, g2 q hq, if_pos (by omega)]
        | succ e ih2 =>
          intro M2 he g1 g2
          obtain ⟨n, hn⟩ := ih2 (zput M2 6 (e + 1) (M2 6 (e + 1) * a3.toInt64 + M2 6 e)) (by omega) (fun a ha => by rw [zput_ne ha]; exact g1 a ha) (fun q hq => by
            by_cases eq : q = e + 1
            · subst eq
              rw [zput_eq, g2 _ hq, if_neg (by omega), g2 e (by omega), if_neg (by omega), if_pos (by omega)]
              rfl
            · rw [zput_n2 eq, g2 q hq]
              by_cases hq2 : e + 1 < q
              · rw [if_pos hq2, if_pos (by omega)]
              · rw [if_neg hq2, if_neg (by omega)])
          refine ⟨n + 1, ⟨fun h => absurd h (nI_nle (by omega) (by omega)), fun _ => ?_⟩⟩
          rw [nI_pred, nI_clamp (by omega), nI_clamp (by omega), pk_m1]
          refine ⟨vp_in_nI (by show e + 1 < 16; omega) (by decide), vp_in_nI (by show e < 16; omega) (by decide), vp_in_nI (by show e + 1 < 16; omega) (by decide), fun M3 e3 => ?_⟩
          rw [e3]; exact hn
      refine inner 7 M1 (by decide) h1 (fun q hq => ?_)
      rw [h2 q hq]
      split
      · rw [zsh_0 t q (by omega), zsh_0 (t + 1) q (by omega)]
      · rfl
  exact ⟨_, key 8 0 M0 rfl f1 (fun i hi => by rw [f2 i hi]; rfl)⟩
theorem s_Mo_shift {r s : Nat} {a3 : Int32} {M : zM} {N : zN} {P : Int32 → zM → zN → Prop} (hr : r < 4) (hs : s < 4) (h3 : znr a3) (k : ∀ (M' : zM) (N0 : zN), N0 = zpui N 99 0 0 → (∀ a, ¬ (104 ≤ a ∧ a ≤ 117) → M' a = M a) → (∀ i, i < 16 → M' 108 i = zsh (zld N s) a3.toInt64 8 i) → w_Mo_settle (nI r) 108 3 M' N0 (fun r17 N19 => P r17 M' N19)) : w_Mo_shift (nI r) (nI s) a3 M N P := by
  refine s_isReg (fun _ => ⟨fun h => absurd h (by decide), fun _ => ?_⟩) (fun h => absurd ⟨r, hr, rfl⟩ h)
  refine s_isReg (fun _ => ⟨fun _ => ⟨fun h => absurd h h3.1, fun _ => ⟨fun _ => ?_, fun h => absurd h3.2 h⟩⟩, fun h => absurd h (by decide)⟩) (fun h => absurd ⟨s, hs, rfl⟩ h)
  intro N0 e0
  have hz : N0 99 0 = 0 := by rw [e0, zpui_eq]
  have hzl : ∀ q, zld N0 q = zld N q := fun q => by rw [e0]; unfold zld; rw [zpui_ne (by decide)]
  rw [hz]
  refine ⟨fun _ => ?_, fun h => absurd (by decide) h⟩
  refine s_Mo_load hs (by decide) (fun Ma a1 a2 => ?_)
  have v6 : ∀ i, i < 16 → Ma 106 i = zld N s i := fun i hi => by rw [a2 i hi, hzl]
  have key : ∀ d t (M1 : zM), t + d = 8 → (∀ a, a ≠ 108 → M1 a = Ma a) → (∀ i, i < 16 → M1 108 i = zsh (zld N s) a3.toInt64 t i) → L_Mo_shift_85 P (nI r) a3 N0 (d + 1) (nI d + (-1)) M1 := by
    intro d
    induction d with
    | zero =>
      intro t M1 ht h1 h2
      have : t = 8 := by omega
      subst this
      exact ⟨fun _ => k M1 N0 e0 (fun a ha => by rw [h1 a (by omega), a1 a (by omega)]) h2, fun h => absurd (by decide) h⟩
    | succ d ih =>
      intro t M1 ht h1 h2
      have h7 : 7 - t = d := by omega
      rw [pk_m1]
      refine ⟨fun h => absurd h (nI_pos (by omega)), fun _ => ?_⟩
      have inner : ∀ e (M2 : zM), e ≤ 8 → (∀ a, a ≠ 108 → M2 a = Ma a) → (∀ q, q < 16 → M2 108 q = if e < q then zsh (zld N s) a3.toInt64 (t + 1) q else zsh (zld N s) a3.toInt64 t q) → ∃ n, L_Mo_shift_94 P (L_Mo_shift_85 P (nI r) a3 N0 (d + 1)) (nI r) a3 (nI d) N0 n (nI e) M2 := by
        intro e
        induction e with
        | zero =>
          intro M2 _ g1 g2
          refine ⟨1, ⟨fun _ => ⟨vp_in_nI (n := 0) (N := 16) (by decide) (by decide), vp_in_nI (by show d < 16; omega) (by decide), vp_in_nI (n := 0) (N := 16) (by decide) (by decide), fun M3 e3 => ?_⟩, fun h => absurd (by decide) h⟩⟩
          rw [nI_clamp (by omega)] at e3
          have e3 : M3 = zput M2 108 0 (M2 108 0 * a3.toInt64 + M2 106 d) := e3
          subst e3
          refine ih (t + 1) _ (by omega) (fun a ha => by rw [zput_ne ha]; exact g1 a ha) (fun q hq => ?_)
          by_cases e0 : q = 0
          · subst e0
            rw [zput_eq, g2 0 (by decide), if_neg (by decide), g1 106 (by decide), v6 d (by omega)]
            show _ = zsh (zld N s) a3.toInt64 t 0 * a3.toInt64 + zld N s (7 - t)
            rw [h7]
          · rw [zput_n2 e0, g2 q hq, if_pos (by omega)]
        | succ e ih2 =>
          intro M2 he g1 g2
          obtain ⟨n, hn⟩ := ih2 (zput M2 108 (e + 1) (M2 108 (e + 1) * a3.toInt64 + M2 108 e)) (by omega) (fun a ha => by rw [zput_ne ha]; exact g1 a ha) (fun q hq => by
            by_cases eq : q = e + 1
            · subst eq
              rw [zput_eq, g2 _ hq, if_neg (by omega), g2 e (by omega), if_neg (by omega), if_pos (by omega)]
              rfl
            · rw [zput_n2 eq, g2 q hq]
              by_cases hq2 : e + 1 < q
              · rw [if_pos hq2, if_pos (by omega)]
              · rw [if_neg hq2, if_neg (by omega)])
          refine ⟨n + 1, ⟨fun h => absurd h (nI_nle (by omega) (by omega)), fun _ => ?_⟩⟩
          rw [nI_pred, nI_clamp (by omega), nI_clamp (by omega), pk_m1]
          refine ⟨vp_in_nI (by show e + 1 < 16; omega) (by decide), vp_in_nI (by show e < 16; omega) (by decide), vp_in_nI (by show e + 1 < 16; omega) (by decide), fun M3 e3 => ?_⟩
          rw [e3]; exact hn
      refine inner 8 M1 (by decide) h1 (fun q hq => ?_)
      rw [h2 q hq]
      split
      · rw [zsh_0 t q (by omega), zsh_0 (t + 1) q (by omega)]
      · rfl
  have fill : ∀ d j (M1 : zM), j + d = 16 → (∀ a, a ≠ 108 → M1 a = Ma a) → (∀ i, i < j → M1 108 i = 0) → ∃ n, L_Mo_shift_60 P (nI r) a3 N0 n (nI j) M1 := by
    intro d
    induction d with
    | zero =>
      intro j M1 hj h1 h2
      have : j = 16 := by omega
      subst this
      exact ⟨1, ⟨fun _ => ⟨_, key 8 0 M1 rfl h1 h2⟩, fun h => absurd (by decide) h⟩⟩
    | succ d ih =>
      intro j M1 hj h1 h2
      obtain ⟨n, hn⟩ := ih (j + 1) (zput M1 108 j 0) (by omega) (fun a ha => by rw [zput_ne ha]; exact h1 a ha) (fun i hi => by
        by_cases e : i = j
        · subst e; rw [zput_eq]
        · rw [zput_n2 e]; exact h2 i (by omega))
      refine ⟨n + 1, ⟨fun h => absurd h (nI_ge (by omega) (by omega) : ¬ nI 16 ≤ nI j), fun _ => ⟨vp_in_nI (by show j < 16; omega) (by decide), fun M2 e => ?_⟩⟩⟩
      rw [e, nI_clamp (by omega), nI_1]
      exact hn
  exact fill 16 0 Ma rfl (fun _ _ => rfl) (fun i hi => by omega)
theorem zsh_congr {f g : Nat → Int64} {a : Int64} (h : ∀ i, i < 8 → f i = g i) : ∀ t i, zsh f a t i = zsh g a t i
  | 0, _ => rfl
  | t + 1, 0 => by
    unfold zsh
    rw [zsh_congr h t 0, h (7 - t) (by omega)]
  | t + 1, i + 1 => by
    unfold zsh
    rw [zsh_congr h t (i + 1), zsh_congr h t i]
theorem u_shift {a1 a2 a3 : Int32} {M : zM} {N : zN} {K : zM → zN → Prop} {Q : Int32 → zM → Prop} (hI : zreg M N) (hk : ∀ M' N', zreg M' N' → zkp M N M' N' → K M' N') (hQ : ∀ q M1, w_Mo_shift a1 a2 a3 M1 N (fun r4 M5 N6 => zth K q r4 M5 N6) → Q q M1) : w_La_shift a1 a2 a3 M Q := by
  have hJ : ∀ q : Int32, ¬ q ≤ 0 → J_Mo_shift_36 (fun r4 M5 N6 => zth K q r4 M5 N6) a1 a2 a3 q M N := fun q hq N4 e => by
    subst e
    rw [zpui_eq]
    exact ⟨fun h => absurd h hq, fun _ => z_th zpui_eq (fun h => absurd (by rw [h]; decide) hq) (hk _ _ (z_reg0 hI q) (z_kp0 q))⟩
  by_cases h : zR a1 4 ∧ zR a2 4
  · obtain ⟨⟨r, hr, rfl⟩, ⟨s, hs, rfl⟩⟩ := h
    by_cases h3 : znr a3
    · refine s_IS_shift (f := zld N s) hr hs h3 (fun i hi => z_ld hI hs hi) (fun Mc c1 c2 => ?_)
      refine z_endX (cc := 3) (a2 := 108) (n := 16) hr (by decide) (by decide) (by decide) (by decide) (by decide) hI hk (fun a ha => c1 a (by omega)) (fun h => ⟨fun g => absurd g (by decide), fun g => absurd g (by decide), fun _ => h, Or.inr (Or.inr rfl)⟩) (fun q M2 _ hW => hQ _ _ (s_Mo_shift hr hs h3 (fun M' N0 e0 m1 m2 => ?_)))
      have he : ∀ i, i < 16 → M' 108 i = Mc 6 i := fun i hi => by rw [m2 i hi, c2 i hi]
      exact hW M' N0 m1 (fun i hi => he i (by omega)) ⟨fun g => zfit_congr (fun i hi => (he i hi).symm) g, fun g => zfit_congr he g⟩ e0
    · have hb : Q 2 M := by
        refine hQ _ _ (s_isReg (fun _ => ⟨fun h => absurd h (by decide), fun _ => ?_⟩) (fun h => absurd ⟨r, hr, rfl⟩ h))
        refine s_isReg (fun _ => ⟨fun _ => ⟨fun _ => hJ 2 (by decide), fun g => ⟨fun g2 => absurd ⟨g, g2⟩ h3, fun _ => hJ 2 (by decide)⟩⟩, fun h => absurd h (by decide)⟩) (fun h => absurd ⟨s, hs, rfl⟩ h)
      exact s_reg (fun _ => s_reg (fun _ => s_near (fun h => absurd h h3) (fun _ => ⟨fun g => absurd g (by decide), fun _ => hb, fun g => absurd g (by decide), Or.inr (Or.inl rfl)⟩)) (fun h => absurd ⟨s, hs, rfl⟩ h)) (fun h => absurd ⟨r, hr, rfl⟩ h)
  · have hb : Q 1 M := by
      refine hQ _ _ (s_isReg (fun h1 => ⟨fun h => absurd h (by decide), fun _ => ?_⟩) (fun _ => ⟨fun _ => hJ 1 (by decide), fun h => absurd rfl h⟩))
      exact s_isReg (fun h2 => absurd ⟨h1, h2⟩ h) (fun _ => ⟨fun h => absurd rfl h, fun _ => hJ 1 (by decide)⟩)
    have hX : (1 = 1 → Q 1 M) ∧ (1 = 2 → Q 2 M) ∧ (1 = 3 → Q 3 M) ∧ (1 = 1 ∨ 1 = 2 ∨ 1 = 3) := ⟨fun _ => hb, fun h => absurd h (by decide), fun h => absurd h (by decide), Or.inl rfl⟩
    exact s_reg (fun h1 => s_reg (fun h2 => absurd ⟨h1, h2⟩ h) (fun _ => hX)) (fun _ => hX)
