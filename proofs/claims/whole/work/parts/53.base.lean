/-! degree; fill, within limits, fits, keep, settle. -/
theorem s_La_degree {a1 : Int32} {M : zM} {Q : Int32 → zM → Prop} (bad : ¬ zR a1 4 → Q 1 M) (good : ∀ r, r < 4 → a1 = nI r → ∀ M', M' = zput M 119 0 (nI (zdg (M (2 + r)) 8) + (-1)).toInt64 → Q 0 M') : w_La_degree a1 M Q := by
  refine s_reg (fun h1 => ?_) (fun h1 => ⟨fun _ => bad h1, rfl⟩)
  obtain ⟨r, hr, rfl⟩ := h1
  refine ⟨z_gn hr, ?_⟩
  rw [nI_clamp (by omega)]
  exact s_Ro_degreeOf (z_r8 hr) (by decide) (by decide) ⟨z_o119, fun M4 e4 => good r hr rfl M4 e4⟩
theorem s_Mo_degree {a1 : Int32} {M : zM} {N : zN} {P : Int32 → zM → zN → Prop} (bad : ¬ zR a1 4 → P 0 M (zpui N 99 0 1)) (good : ∀ r, r < 4 → a1 = nI r → ∀ M', (∀ a, a ≠ 106 → M' a = M a) → (∀ i, i < 16 → M' 106 i = zld N r i) → P (nI (zdg (M' 106) 16) + (-1)) M' (zpui N 99 0 0)) : w_Mo_degree a1 M N P := by
  refine s_isReg (fun h1 => ⟨fun h => absurd h (by decide), fun _ N4 e => ?_⟩) (fun h1 => ⟨fun _ N4 e => ?_, fun h => absurd rfl h⟩)
  · obtain ⟨r, hr, rfl⟩ := h1
    rw [e, zpui_eq]
    refine ⟨fun _ => s_Mo_load hr (by decide) (fun M' f1 f2 => s_Mo_degreeOf (by decide) (good r hr rfl M' f1 (fun i hi => ?_))), fun h => absurd (by decide) h⟩
    rw [f2 i hi]
    unfold zld
    rw [zpui_ne (by decide)]
  · rw [e, zpui_eq]
    exact ⟨fun h => absurd h (by decide), fun _ => bad h1⟩
theorem u_degree {a1 : Int32} {M : zM} {N : zN} {K : zM → zN → Prop} {V1 : Prop} (v1 : V1) (hI : zreg M N) (hk : ∀ M' N', zreg M' N' → zkp M N M' N' → K M' N') : w_La_degree a1 M (fun r1 M1 => V1 ∧ w_Mo_degree a1 M1 N (fun r4 M5 N6 => zth K r1 r4 M5 N6)) := by
  refine s_La_degree (fun h => ⟨v1, s_Mo_degree (fun _ => z_th zpui_eq (fun h => absurd h (by decide)) (hk _ _ (z_reg0 hI 1) (z_kp0 1))) (fun r hr e1 => absurd ⟨r, hr, e1⟩ h)⟩) (fun r hr e1 M1 f1 => ⟨v1, s_Mo_degree (fun h => absurd ⟨r, hr, e1⟩ h) (fun r' hr' e1' M' hM h6 => ?_)⟩)
  have hr1 : r = r' := (nI_eq (by omega) (by omega)).mp (e1.symm.trans e1')
  subst hr1
  refine z_th zpui_eq (fun _ => ?_) (hk _ _ (fun r i hr hi => ?_) ⟨fun k a b => ?_, (z_kp0 (M := M) 0).2⟩)
  · rw [hM 119 (by decide), f1, zput_eq, z_deg hr (fun i hi => (hI r i hr hi).1) h6]
  · rw [hM _ (by omega), f1]
    exact z_reg119 (z_reg0 hI 0) _ _ r i hr hi
  · rw [hM k (by omega), f1, zput_ne (by omega)]
theorem s_Ar_fillJ {P : zM → Prop} {a0 n : Nat} {x : Int64} {M : zM} (hz : zlong a0 = n) (h0 : 0 < n) (hn : n < 100) (k : ∀ M' : zM, (∀ a, a ≠ a0 → M' a = M a) → (∀ i, i < n → M' a0 i = x) → P M') : w_Ar_fillJ a0 x M P := by
  refine ⟨by omega, fun x1 hx => ?_⟩
  have hx : x1 = nI n := by rw [hx, hz, nI]
  subst hx
  have key : ∀ d j (M1 : zM), j + d = n → (∀ a, a ≠ a0 → M1 a = M a) → (∀ i, i < j → M1 a0 i = x) → ∃ f, L_Ar_fillJ_6 P a0 x (nI n) f (nI j) M1 := by
    intro d
    induction d with
    | zero =>
      intro j M1 hj h1 h2
      have : j = n := by omega
      subst this
      exact ⟨1, ⟨fun _ => k M1 h1 h2, fun h => absurd (nI_le (Nat.le_refl _) (by omega)) h⟩⟩
    | succ d ih =>
      intro j M1 hj h1 h2
      obtain ⟨f, hf⟩ := ih (j + 1) (zput M1 a0 j x) (by omega) (fun a ha => by rw [zput_ne ha]; exact h1 a ha) (fun i hi => by
        by_cases e : i = j
        · subst e; rw [zput_eq]
        · rw [zput_n2 e]; exact h2 i (by omega))
      refine ⟨f + 1, ⟨fun h => absurd h (nI_ge (by omega) (by omega)), fun _ => ⟨by rw [hz]; exact vp_in_nI (by omega) (by omega), fun M2 e => ?_⟩⟩⟩
      rw [e, nI_clamp (by omega), nI_1]
      exact hf
  obtain ⟨f, hf⟩ := key n 0 M (by omega) (fun _ _ => rfl) (fun i hi => by omega)
  exact ⟨f, hf⟩
/-- the value at place i may stand in a register -/
def zfo (f : Nat → Int64) (i : Nat) : Prop := (i < 8 → -99999 ≤ (f i).toInt ∧ (f i).toInt ≤ 99999) ∧ (8 ≤ i → f i = 0)
def zfit (f : Nat → Int64) (n : Nat) : Prop := ∀ i, i < n → zfo f i
theorem z_99 : (99999 : Int64).toInt = 99999 ∧ (-99999 : Int64).toInt = -99999 ∧ (-(99999 : Int64)).toInt = -99999 ∧ (0 : Int64).toInt = 0 ∧ (-(0 : Int64)).toInt = 0 := by decide
theorem z_lim {x t : Int64} {T : Int} (ht : t.toInt = T) (ht' : (-t).toInt = -T) {A B : Prop} (hA : (-T ≤ x.toInt ∧ x.toInt ≤ T) → A) (hB : ¬ (-T ≤ x.toInt ∧ x.toInt ≤ T) → B) : (x < -t → B) ∧ (¬ x < -t → (x ≤ t → A) ∧ (¬ x ≤ t → B)) := by
  rw [Int64.lt_iff_toInt_lt, Int64.le_iff_toInt_le, ht, ht']
  refine ⟨fun h => hB (by omega), fun h => ⟨fun h2 => hA (by omega), fun h2 => hB (by omega)⟩⟩
theorem s_within {P : Int32 → Prop} {a0 n : Nat} {M : zM} (hz : zlong a0 = n) (h0 : 0 < n) (hn : n < 100) (h1 : zfit (M a0) n → P 1) (h2 : ¬ zfit (M a0) n → P 0) : w_IS_isWithinLimits a0 M P := by
  have key : ∀ d j, j + d = n → zfit (M a0) j → ∃ f, L_IS_isWithinLimits_2 P a0 M f (nI j) := by
    intro d
    induction d with
    | zero =>
      intro j hj hF
      have : j = n := by omega
      subst this
      refine ⟨1, ⟨by omega, fun _ => ⟨rfl, h1 hF⟩, fun h => absurd ?_ h⟩⟩
      rw [hz]
      exact nI_le (Nat.le_refl _) (by omega)
    | succ d ih =>
      intro j hj hF
      have hin : vp_in (nI j) (zlong a0) := by rw [hz]; exact vp_in_nI (by omega) (by omega)
      have hcl : (nI j).toNatClampNeg = j := nI_clamp (by omega)
      have hno : ∀ Y : Prop, Int32.ofNat (zlong a0) ≤ nI j → Y := fun Y h => by
        rw [hz] at h
        exact absurd h (nI_ge (by omega) (by omega))
      by_cases hf : zfo (M a0) j
      · obtain ⟨f, hL⟩ := ih (j + 1) (by omega) (fun i hi => by
          by_cases e : i = j
          · subst e; exact hf
          · exact hF i (by omega))
        refine ⟨f + 1, ⟨by omega, hno _, fun _ => ⟨fun h8 => ⟨hin, ?_⟩, fun h8 => ⟨hin, ?_⟩⟩⟩⟩
        · have h8' : 8 ≤ j := (nI_leI (a := 8) (by decide) (by omega)).mp h8
          rw [hcl, nI_1]
          have h := z_lim (x := M a0 j) (t := 0) (T := 0) z_99.2.2.2.1 z_99.2.2.2.2 (A := L_IS_isWithinLimits_2 P a0 M f (nI (j + 1))) (B := narrow .boolean (.int (0 : Int32)) = .int (0 : Int32) ∧ P 0) (fun _ => hL) (fun h => absurd (by rw [hf.2 h8', z_99.2.2.2.1]; omega) h)
          exact ⟨h.1, fun g => ⟨hin, h.2 g⟩⟩
        · have h8' : j < 8 := by
            rcases Nat.lt_or_ge j 8 with h | h
            · exact h
            · exact absurd (nI_le h (by omega) : nI 8 ≤ nI j) h8
          rw [hcl, nI_1]
          have h := z_lim (x := M a0 j) (t := 99999) (T := 99999) z_99.1 z_99.2.2.1 (A := L_IS_isWithinLimits_2 P a0 M f (nI (j + 1))) (B := narrow .boolean (.int (0 : Int32)) = .int (0 : Int32) ∧ P 0) (fun _ => hL) (fun h => absurd (hf.1 h8') h)
          exact ⟨h.1, fun g => ⟨hin, h.2 g⟩⟩
      · have hb : P 0 := h2 (fun h => hf (h j (by omega)))
        refine ⟨1, ⟨by omega, hno _, fun _ => ⟨fun h8 => ⟨hin, ?_⟩, fun h8 => ⟨hin, ?_⟩⟩⟩⟩
        · have h8' : 8 ≤ j := (nI_leI (a := 8) (by decide) (by omega)).mp h8
          rw [hcl]
          have h := z_lim (x := M a0 j) (t := 0) (T := 0) z_99.2.2.2.1 z_99.2.2.2.2 (A := False) (B := narrow .boolean (.int (0 : Int32)) = .int (0 : Int32) ∧ P 0) (fun h => hf ⟨fun h => by omega, fun _ => by rw [← Int64.toInt_inj, z_99.2.2.2.1]; omega⟩) (fun _ => ⟨rfl, hb⟩)
          exact ⟨h.1, fun g => ⟨hin, fun g2 => ((h.2 g).1 g2).elim, (h.2 g).2⟩⟩
        · have h8' : j < 8 := by
            rcases Nat.lt_or_ge j 8 with h | h
            · exact h
            · exact absurd (nI_le h (by omega) : nI 8 ≤ nI j) h8
          rw [hcl]
          have h := z_lim (x := M a0 j) (t := 99999) (T := 99999) z_99.1 z_99.2.2.1 (A := False) (B := narrow .boolean (.int (0 : Int32)) = .int (0 : Int32) ∧ P 0) (fun h => hf ⟨fun _ => h, fun h => by omega⟩) (fun _ => ⟨rfl, hb⟩)
          exact ⟨h.1, fun g => ⟨hin, fun g2 => ((h.2 g).1 g2).elim, (h.2 g).2⟩⟩
  exact key n 0 (by omega) (fun i hi => by omega)
/-- where the highest places are 0, only the lower eight are to be held against the limits -/
theorem zfit16 {f : Nat → Int64} : zfit f 16 ↔ zdg f 16 ≤ 8 ∧ zfit f 8 := by
  constructor
  · intro h
    refine ⟨?_, fun i hi => h i (by omega)⟩
    rw [zdg_up (n := 8) (by decide) (fun i a b => (h i b).2 a)]
    exact zdg_le _ _
  · intro ⟨h, g⟩ i hi
    rcases Nat.lt_or_ge i 8 with a | a
    · exact g i a
    · refine ⟨fun b => by omega, fun _ => ?_⟩
      have key : ∀ n, zdg f n ≤ 8 → ∀ j, 8 ≤ j → j < n → f j = 0 := by
        intro n
        induction n with
        | zero => intro _ j _ h; omega
        | succ n ih =>
          intro hd j h8 hj
          by_cases e : f n = 0
          · have hd' : zdg f n ≤ 8 := by
              have : zdg f (n + 1) = zdg f n := by
                show (if f n = 0 then zdg f n else n + 1) = _
                rw [if_pos e]
              omega
            by_cases ej : j = n
            · rw [ej]; exact e
            · exact ih hd' j h8 (by omega)
          · have : zdg f (n + 1) = n + 1 := by
              show (if f n = 0 then zdg f n else n + 1) = _
              rw [if_neg e]
            omega
      exact key 16 h i a hi
