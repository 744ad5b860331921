/-! roots. -/
theorem s_Mo_roots {r p : Nat} {N N8 : zN} {P : Int32 → zN → Prop} (hr : r < 4) (h0 : 0 < p) (hb : p < 100) (hN : N8 99 0 = 0) (h100 : N8 100 = N 100) (k : P (nI (zrc (zld N r) (nI p).toInt64 p)) N8) : ∃ n, L_Mo_roots_32 P (nI r) (nI p) N8 n (0 : Int32) (0 : Int32) := by
  have hpp : ¬ (nI p).toInt64 = 0 := fun e => by
    rw [nI_l (by omega)] at e
    have := (pk_lEQ (a := p) (b := 0) (by omega) (by decide)).mp e
    omega
  have key : ∀ d j, j + d = p → L_Mo_roots_32 P (nI r) (nI p) N8 (d + 1) (nI (zrc (zld N r) (nI p).toInt64 j)) (nI j) := by
    intro d
    induction d with
    | zero =>
      intro j hj
      have : j = p := by omega
      subst this
      exact ⟨fun _ => k, fun h => absurd (nI_le (Nat.le_refl _) (by omega)) h⟩
    | succ d ih =>
      intro j hj
      refine ⟨fun h => absurd h (nI_ge (by omega) (by omega)), fun _ => ⟨fun h => absurd hN h, fun _ => ?_⟩⟩
      have hstep := ih (j + 1) (by omega)
      have inner : ∀ i x, i ≤ 8 → zhr (zld N r) (nI j).toInt64 (nI p).toInt64 i x = zhr (zld N r) (nI j).toInt64 (nI p).toInt64 8 0 → ∃ n, L_Mo_roots_52 P (L_Mo_roots_32 P (nI r) (nI p) N8 (d + 1)) (nI r) (nI p) (nI (zrc (zld N r) (nI p).toInt64 j)) (nI j) N8 n x (nI i + (-1)) := by
        intro i
        induction i with
        | zero =>
          intro x _ hx
          have hx : x = zhr (zld N r) (nI j).toInt64 (nI p).toInt64 8 0 := hx
          refine ⟨1, ⟨fun _ => ⟨fun g => ?_, fun g y ey => ?_⟩, fun h => absurd (by decide) h⟩⟩
          · rw [nI_1]
            unfold zrc at hstep
            rw [← hx, if_neg g] at hstep
            exact hstep
          · rw [ey, nI_1, nI_1]
            unfold zrc at hstep
            rw [← hx, if_pos g] at hstep
            exact hstep
        | succ i ih2 =>
          intro x hi hx
          obtain ⟨n, hn⟩ := ih2 (zrs (x * (nI j).toInt64 + zld N r i) (nI p).toInt64) (by omega) hx
          refine ⟨n + 1, ?_⟩
          rw [pk_m1]
          refine ⟨fun h => absurd h (nI_pos (by omega)), fun _ => ?_⟩
          rw [z_ix hr (by omega), nI_clamp (by omega), h100]
          refine ⟨vp_in_nI (by show 8 * r + i < 32; omega) (by decide), s_left hpp ?_⟩
          have e9 : zld N r i = (N 100 (8 * r + i)).toInt64 := by unfold zld; rw [if_pos (by omega)]
          rw [← e9]
          exact hn
      exact inner 8 0 (by decide) rfl
  exact ⟨_, key p 0 (by omega)⟩
theorem u_roots {a1 a2 : Int32} {M : zM} {N : zN} {K : zM → zN → Prop} {Q : Int32 → zM → Prop} (hI : zreg M N) (hk : ∀ M' N', zreg M' N' → zkp M N M' N' → K M' N') (hQ : ∀ q M1, w_Mo_roots a1 a2 N (fun r4 N6 => zth K q r4 M1 N6) → Q q M1) : w_La_roots a1 a2 M Q := by
  have hb : ∀ t : Int32, ¬ t = 0 → ∀ N7 : zN, N7 = zpui N 99 0 t → ∃ n, L_Mo_roots_32 (fun r4 N6 => zth K t r4 M N6) a1 a2 N7 n (0 : Int32) (0 : Int32) := by
    intro t ht N7 e
    have hz : zth K t 0 M N7 := by
      subst e
      exact z_th zpui_eq (fun h => absurd h ht) (hk _ _ (z_reg0 hI t) (z_kp0 t))
    exact ⟨1, ⟨fun _ => hz, fun _ => ⟨fun _ => hz, fun h => absurd (by rw [e, zpui_eq] at h; exact h) ht⟩⟩⟩
  by_cases h1 : zR a1 4
  · by_cases h2 : zmo a2
    · obtain ⟨r, hr, rfl⟩ := id h1
      obtain ⟨p, hp, rfl⟩ := id h2
      refine s_IS_roots hr h2 (by omega) (by omega) ⟨z_o119, fun M1 e1 => hQ _ _ ?_⟩
      have e1 : M1 = zput M 119 0 (nI (zrc (M (2 + r)) (nI p).toInt64 p)).toInt64 := e1
      subst e1
      refine s_isReg (fun _ => ⟨fun _ => s_isSmall (fun _ => ⟨fun h => absurd h (by decide), fun _ N8 e8 => ?_⟩) (fun h => absurd h2 h), fun h => absurd h (by decide)⟩) (fun h => absurd h1 h)
      subst e8
      refine s_Mo_roots (N := N) hr (by omega) (by omega) zpui_eq (zpui_ne (by decide)) ?_
      refine z_th zpui_eq (fun _ => ?_) (hk _ _ (z_reg119 (z_reg0 hI 0) _ _) (z_kp119 (z_kp0 0) _ _))
      rw [zput_eq, zrc_congr (fun i hi => z_ld hI hr hi)]
    · have hq : Q 2 M := hQ _ _ (s_isReg (fun _ => ⟨fun _ => s_isSmall (fun h => absurd h h2) (fun _ => ⟨fun _ => hb 2 (by decide), fun h => absurd rfl h⟩), fun h => absurd h (by decide)⟩) (fun h => absurd h1 h))
      exact s_reg (fun _ => s_modulus (fun h => absurd h h2) (fun _ => ⟨fun h => absurd h (by decide), fun _ => hq, Or.inr rfl⟩)) (fun h => absurd h1 h)
  · have hq : Q 1 M := hQ _ _ (s_isReg (fun h => absurd h h1) (fun _ => ⟨fun h => absurd rfl h, fun _ => hb 1 (by decide)⟩))
    exact s_reg (fun h => absurd h h1) (fun _ => ⟨fun _ => hq, fun h => absurd h (by decide), Or.inl rfl⟩)
