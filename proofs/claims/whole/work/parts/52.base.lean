/-! put, degree; filling, fitting, keeping. -/
def zth (K : zM → zN → Prop) (r1 r4 : Int32) (M : zM) (N : zN) : Prop := w_Mo_thrown N (fun r7 => (r7 = r1 → (¬ r1 = 0 → K M N) ∧ (r1 = 0 → vp_in (0 : Int32) (zlong 119) ∧ ((M 119 (0 : Int32).toNatClampNeg) = r4.toInt64 → K M N) ∧ (¬ (M 119 (0 : Int32).toNatClampNeg) = r4.toInt64 → False))) ∧ (¬ r7 = r1 → False))
theorem z_th {K : zM → zN → Prop} {r1 r4 : Int32} {M : zM} {N : zN} (h : N 99 0 = r1) (h2 : r1 = 0 → M 119 0 = r4.toInt64) (hk : K M N) : zth K r1 r4 M N := z_same h h2 hk
theorem z_reg119 {N : zN} {M : zM} (h : zreg M N) (i : Nat) (x : Int64) : zreg (zput M 119 i x) N := fun r j hr hj => by
  rw [zput_ne (by omega)]; exact h r j hr hj
theorem z_kp119 {N N' : zN} {M M' : zM} (h : zkp M N M' N') (i : Nat) (x : Int64) : zkp M N (zput M' 119 i x) N' := ⟨fun k a b => by rw [zput_ne (by omega)]; exact h.1 k a b, h.2⟩
theorem u_coefficient {a1 a2 : Int32} {M : zM} {N : zN} {K : zM → zN → Prop} {V1 V2 : Prop} (v1 : V1) (v2 : V2) (hI : zreg M N) (hk : ∀ M' N', zreg M' N' → zkp M N M' N' → K M' N') : w_La_coefficient a1 a2 M (fun r1 M1 => V1 ∧ V2 ∧ w_Mo_coefficient a1 a2 N (fun r4 N6 => zth K r1 r4 M1 N6)) := by
  refine s_La_coefficient (fun h => ⟨v1, v2, s_Mo_coefficient (fun _ => z_th zpui_eq (fun h => absurd h (by decide)) (hk _ _ (z_reg0 hI 1) (z_kp0 1))) (fun r i hr hi e1 e2 => absurd ⟨⟨r, hr, e1⟩, ⟨i, hi, e2⟩⟩ h)⟩) (fun r i hr hi e1 e2 M' e => ⟨v1, v2, s_Mo_coefficient (fun h => absurd ⟨⟨r, hr, e1⟩, ⟨i, hi, e2⟩⟩ h) (fun r' i' hr' hi' e1' e2' => ?_)⟩)
  have hr1 : r = r' := (nI_eq (by omega) (by omega)).mp (e1.symm.trans e1')
  have hi1 : i = i' := (nI_eq (by omega) (by omega)).mp (e2.symm.trans e2')
  subst hr1 hi1 e
  exact z_th zpui_eq (fun _ => by rw [zput_eq, (hI r i hr hi).1, zx_ii]) (hk _ _ (z_reg119 (z_reg0 hI 0) _ _) (z_kp119 (z_kp0 0) _ _))
/-- put -/
theorem s_La_put {a1 a2 a3 : Int32} {M : zM} {Q : Int32 → zM → Prop} (bad : ¬ (zR a1 4 ∧ zR a2 8) → Q 1 M) (bad2 : zR a1 4 ∧ zR a2 8 → ¬ zsm a3 → Q 2 M) (good : ∀ r i, r < 4 → i < 8 → a1 = nI r → a2 = nI i → zsm a3 → ∀ M1 M', M1 = zput M (2 + r) i a3.toInt64 → M' = zput M1 119 0 (nI (zdg (M1 (2 + r)) 8) + (-1)).toInt64 → Q 0 M') : w_La_put a1 a2 a3 M Q := by
  refine s_reg (fun h1 => s_place (fun h2 => ?_) (fun h2 => ⟨fun _ => bad (fun h => h2 h.2), fun h => absurd h (by decide), Or.inl rfl⟩)) (fun h1 => ⟨fun _ => bad (fun h => h1 h.1), fun h => absurd h (by decide), Or.inl rfl⟩)
  have hb : ¬ zsm a3 → (2 = 1 → Q 1 M) ∧ (2 = 2 → Q 2 M) ∧ (2 = 1 ∨ 2 = 2) := fun h => ⟨fun h => absurd h (by decide), fun _ => bad2 ⟨h1, h2⟩ h, Or.inr rfl⟩
  refine ⟨fun g => hb (fun h => h.1 g), fun g => ⟨fun g2 => ?_, fun g2 => hb (fun h => g2 h.2)⟩⟩
  obtain ⟨r, hr, rfl⟩ := h1
  obtain ⟨i, hi, rfl⟩ := h2
  refine ⟨z_gn hr, ?_⟩
  rw [nI_clamp (by omega), nI_clamp (by omega)]
  refine ⟨z_l8 hr hi, fun M7 e => ⟨z_gn hr, s_Ro_degreeOf (z_r8 hr) (by decide) (by decide) ⟨z_o119, fun M4 e4 => ?_⟩⟩⟩
  exact good r i hr hi rfl rfl ⟨g, g2⟩ M7 M4 e e4
theorem s_Mo_put {a1 a2 a3 : Int32} {M : zM} {N : zN} {P : Int32 → zM → zN → Prop} (bad : ¬ (zR a1 4 ∧ zR a2 8) → P 0 M (zpui N 99 0 1)) (bad2 : zR a1 4 ∧ zR a2 8 → ¬ zsm a3 → P 0 M (zpui N 99 0 2)) (good : ∀ r i, r < 4 → i < 8 → a1 = nI r → a2 = nI i → zsm a3 → ∀ M' N', N' = zpui (zpui N 99 0 0) 100 (8 * r + i) a3 → (∀ a, a ≠ 106 → M' a = M a) → (∀ i, i < 16 → M' 106 i = zld N' r i) → P (nI (zdg (M' 106) 16) + (-1)) M' N') : w_Mo_put a1 a2 a3 M N P := by
  have hb : ∀ t : Int32, ¬ t ≤ 0 → P 0 M (zpui N 99 0 t) → J_Mo_put_39 P a1 a2 a3 t M N := fun t ht h N4 e => by
    subst e
    rw [zpui_eq]
    exact ⟨fun h => absurd h ht, fun _ => h⟩
  refine s_isReg (fun h1 => ⟨fun h => absurd h (by decide), fun _ => ?_⟩) (fun h1 => ⟨fun _ => hb 1 (by decide) (bad (fun h => h1 h.1)), fun h => absurd rfl h⟩)
  by_cases h2 : zR a2 8
  · have hb2 : ¬ zsm a3 → J_Mo_put_39 P a1 a2 a3 2 M N := fun h => hb 2 (by decide) (bad2 ⟨h1, h2⟩ h)
    obtain ⟨i, hi, rfl⟩ := id h2
    obtain ⟨r, hr, rfl⟩ := id h1
    refine ⟨fun h => absurd h (nI_pos (by omega)), fun _ => ⟨fun _ => ⟨fun g => hb2 (fun h => h.1 g), fun g => ⟨fun g2 N4 e => ?_, fun g2 => hb2 (fun h => g2 h.2)⟩⟩, fun h => absurd (nI_le (b := 7) (by omega) (by decide) : nI i ≤ nI 7) h⟩⟩
    rw [e, zpui_eq, z_ix hr hi, nI_clamp (by omega)]
    refine ⟨fun _ => ⟨vp_in_nI (by show 8 * r + i < 32; omega) (by decide), fun N5 e5 => ?_⟩, fun h => absurd (by decide) h⟩
    exact s_Mo_load hr (by decide) (fun M' f1 f2 => s_Mo_degreeOf (by decide) (good r i hr hi rfl rfl ⟨g, g2⟩ M' N5 e5 f1 f2))
  · have hb' := hb 1 (by decide) (bad (fun h => h2 h.2))
    rcases zR_no (by decide) h2 with g | g
    · exact ⟨fun _ => hb', fun g' => absurd g g'⟩
    · refine ⟨fun _ => hb', fun _ => ⟨fun g' => ?_, fun _ => hb'⟩⟩
      have h8 : (8 : Int32) ≤ 7 := Int32.le_trans g g'
      exact absurd h8 (by decide)
/-- a register's degree is the same for class and reference -/
theorem z_deg {M M' : zM} {N : zN} {r : Nat} (hr : r < 4) (h : ∀ i, i < 8 → M (2 + r) i = (N 100 (8 * r + i)).toInt64) (h2 : ∀ i, i < 16 → M' 106 i = zld N r i) : zdg (M' 106) 16 = zdg (M (2 + r)) 8 := by
  rw [zdg_congr h2, zdg_up (n := 8) (by decide) (fun i a b => by unfold zld; rw [if_neg (by omega)])]
  refine zdg_congr (fun i hi => ?_)
  unfold zld
  rw [if_pos hi, h i hi]
theorem z_sm {x : Int32} (h : zsm x) : -99999 ≤ x.toInt ∧ x.toInt ≤ 99999 := by
  obtain ⟨a, b⟩ := h
  rw [Int32.lt_iff_toInt_lt] at a
  rw [Int32.le_iff_toInt_le] at b
  have e1 : (-99999 : Int32).toInt = -99999 := by decide
  have e2 : (99999 : Int32).toInt = 99999 := by decide
  omega
theorem u_put {a1 a2 a3 : Int32} {M : zM} {N : zN} {K : zM → zN → Prop} {V1 V2 V3 : Prop} (v1 : V1) (v2 : V2) (v3 : V3) (hI : zreg M N) (hk : ∀ M' N', zreg M' N' → zkp M N M' N' → K M' N') : w_La_put a1 a2 a3 M (fun r1 M1 => V1 ∧ V2 ∧ V3 ∧ w_Mo_put a1 a2 a3 M1 N (fun r4 M5 N6 => zth K r1 r4 M5 N6)) := by
  refine s_La_put (fun h => ⟨v1, v2, v3, s_Mo_put (fun _ => z_th zpui_eq (fun h => absurd h (by decide)) (hk _ _ (z_reg0 hI 1) (z_kp0 1))) (fun h' => absurd h' h) (fun r i hr hi e1 e2 => absurd ⟨⟨r, hr, e1⟩, ⟨i, hi, e2⟩⟩ h)⟩) (fun h g => ⟨v1, v2, v3, s_Mo_put (fun h' => absurd h h') (fun _ _ => z_th zpui_eq (fun h => absurd h (by decide)) (hk _ _ (z_reg0 hI 2) (z_kp0 2))) (fun r i hr hi e1 e2 g' => absurd g' g)⟩) (fun r i hr hi e1 e2 g M1 M2 f1 f2 => ⟨v1, v2, v3, s_Mo_put (fun h => absurd ⟨⟨r, hr, e1⟩, ⟨i, hi, e2⟩⟩ h) (fun _ g' => absurd g g') (fun r' i' hr' hi' e1' e2' g' M' N' eN hM h6 => ?_)⟩)
  have hr1 : r = r' := (nI_eq (by omega) (by omega)).mp (e1.symm.trans e1')
  have hi1 : i = i' := (nI_eq (by omega) (by omega)).mp (e2.symm.trans e2')
  subst hr1 hi1
  have hreg : zreg M1 N' := by
    intro r' i' hr' hi'
    rw [eN, f1]
    by_cases e : 8 * r' + i' = 8 * r + i
    · have : r' = r := by omega
      have : i' = i := by omega
      subst r' i'
      rw [zpui_eq, zput_eq]
      exact ⟨rfl, z_sm g⟩
    · rw [zpui_n2 e, zpui_ne (by decide)]
      have h0 := hI r' i' hr' hi'
      refine ⟨?_, h0.2⟩
      by_cases er : r' = r
      · subst er
        rw [zput_n2 (by omega)]; exact h0.1
      · rw [zput_ne (by omega)]; exact h0.1
  have hreg' : zreg M' N' := by
    intro r' i' hr' hi'
    rw [hM _ (by omega), f2]
    exact z_reg119 hreg _ _ r' i' hr' hi'
  refine z_th (by rw [eN, zpui_ne (by decide), zpui_eq]) (fun _ => ?_) (hk _ _ hreg' ⟨fun k a b => ?_, fun k a b => ?_, fun j a => ?_⟩)
  · rw [hM 119 (by decide), f2, zput_eq, z_deg hr (fun i hi => (hreg r i hr hi).1) h6]
  · rw [hM k (by omega), f2, zput_ne (by omega), f1, zput_ne (by omega)]
  · rw [eN, zpui_ne b, zpui_ne a]
  · rw [eN, zpui_ne (by decide), zpui_n2 a]
