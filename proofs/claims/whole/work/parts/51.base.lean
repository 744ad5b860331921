/-! The state of class and reference; the plain calls. -/
/-- x is one of 0 .. n - 1 -/
def zR (x : Int32) (n : Nat) : Prop := ∃ j, j < n ∧ x = nI j
theorem zR_no {x : Int32} {n : Nat} (hn : n < 2 ^ 31) (h : ¬ zR x n) : x < 0 ∨ nI n ≤ x := by
  rcases pk_ix x hn with a | a | a
  · exact Or.inl a
  · exact Or.inr a
  · exact absurd a h
theorem s_reg {a : Int32} {P : Prop} {X : Nat → Prop} (hP : zR a 4 → P) (hX : ¬ zR a 4 → X 1) : w_IS_requireRegister a P X := by
  by_cases h : zR a 4
  · obtain ⟨j, hj, e⟩ := id h
    subst e
    exact ⟨fun h => absurd h (nI_pos (by omega)), fun _ => ⟨fun _ => hP h, fun g => absurd (nI_lt hj (by decide) : nI j < nI 4) g⟩⟩
  · rcases zR_no (by decide) h with g | g
    · exact ⟨fun _ => hX h, fun g' => absurd g g'⟩
    · exact ⟨fun _ => hX h, fun _ => ⟨fun g' => absurd g' (Int32.not_lt.mpr g), fun _ => hX h⟩⟩
theorem s_place {a : Int32} {P : Prop} {X : Nat → Prop} (hP : zR a 8 → P) (hX : ¬ zR a 8 → X 1) : w_IS_requirePlace a P X := by
  by_cases h : zR a 8
  · obtain ⟨j, hj, e⟩ := id h
    subst e
    exact ⟨fun h => absurd h (nI_pos (by omega)), fun _ => ⟨fun _ => hP h, fun g => absurd (nI_lt hj (by decide) : nI j < nI 8) g⟩⟩
  · rcases zR_no (by decide) h with g | g
    · exact ⟨fun _ => hX h, fun g' => absurd g g'⟩
    · exact ⟨fun _ => hX h, fun _ => ⟨fun g' => absurd g' (Int32.not_lt.mpr g), fun _ => hX h⟩⟩
theorem s_isReg {a : Int32} {P : Int32 → Prop} (hP : zR a 4 → P 1) (hX : ¬ zR a 4 → P 0) : w_Mo_isRegister a P := by
  by_cases h : zR a 4
  · obtain ⟨j, hj, e⟩ := id h
    subst e
    exact ⟨fun h => absurd h (nI_pos (by omega)), fun _ => ⟨fun g => absurd g (nI_ge hj (by decide) : ¬ nI 4 ≤ nI j), fun _ => ⟨rfl, hP h⟩⟩⟩
  · rcases zR_no (by decide) h with g | g
    · exact ⟨fun _ => ⟨rfl, hX h⟩, fun g' => absurd g g'⟩
    · exact ⟨fun _ => ⟨rfl, hX h⟩, fun _ => ⟨fun _ => ⟨rfl, hX h⟩, fun g' => absurd g g'⟩⟩
def zsm (x : Int32) : Prop := ¬ x < (-99999 : Int32) ∧ x ≤ (99999 : Int32)
def zreg (M : zM) (N : zN) : Prop := ∀ r i, r < 4 → i < 8 → M (2 + r) i = (N 100 (8 * r + i)).toInt64 ∧ -99999 ≤ (N 100 (8 * r + i)).toInt ∧ (N 100 (8 * r + i)).toInt ≤ 99999
/-- what the plain calls leave as it was -/
def zkp (M : zM) (N : zN) (M' : zM) (N' : zN) : Prop := (∀ k, 79 ≤ k → k ≤ 103 → M' k = M k) ∧ (∀ k, k ≠ 99 → k ≠ 100 → N' k = N k) ∧ ∀ j, j ≠ 0 → N' 99 j = N 99 j
theorem zkp_rf {M : zM} {N : zN} : zkp M N M N := ⟨fun _ _ _ => rfl, fun _ _ _ => rfl, fun _ _ => rfl⟩
/-- the law's comparison: what was thrown, then what was answered -/
theorem z_same {K : zM → zN → Prop} {r1 r4 : Int32} {M : zM} {N : zN} (h : N 99 0 = r1) (h2 : r1 = 0 → M 119 0 = r4.toInt64) (hk : K M N) : w_Mo_thrown N (fun r7 => (r7 = r1 → (¬ r1 = 0 → K M N) ∧ (r1 = 0 → vp_in (0 : Int32) (zlong 119) ∧ ((M 119 (0 : Int32).toNatClampNeg) = r4.toInt64 → K M N) ∧ (¬ (M 119 (0 : Int32).toNatClampNeg) = r4.toInt64 → False))) ∧ (¬ r7 = r1 → False)) :=
  ⟨fun _ => ⟨fun _ => hk, fun e => ⟨vp_in_nI (n := 0) (N := 1) (by decide) (by decide), fun _ => hk, fun g => g (h2 e)⟩⟩, fun g => g h⟩
theorem z_o119 : vp_in (0 : Int32) (zlong 119) := vp_in_nI (n := 0) (N := 1) (by decide) (by decide)
theorem z_gn {r : Nat} (hr : r < 4) : vp_in (nI r) (zgn 1) := vp_in_nI (n := r) (N := 4) hr (by decide)
theorem z_l8 {r i : Nat} (hr : r < 4) (hi : i < 8) : vp_in (nI i) (zlong (1 + 1 + r)) := by
  have h : zlong (1 + 1 + r) = 8 := by
    have : r = 0 ∨ r = 1 ∨ r = 2 ∨ r = 3 := by omega
    rcases this with rfl | rfl | rfl | rfl <;> decide
  rw [h]
  exact vp_in_nI hi (by decide)
theorem z_r8 {r : Nat} (hr : r < 4) : zlong (2 + r) = 8 := by
  have : r = 0 ∨ r = 1 ∨ r = 2 ∨ r = 3 := by omega
  rcases this with rfl | rfl | rfl | rfl <;> decide
theorem z_reg0 {N : zN} {M : zM} (h : zreg M N) (t : Int32) : zreg M (zpui N 99 0 t) := fun r i hr hi => by
  rw [zpui_ne (by decide)]; exact h r i hr hi
theorem z_kp0 {N : zN} {M : zM} (t : Int32) : zkp M N M (zpui N 99 0 t) := ⟨fun _ _ _ => rfl, fun k h _ => zpui_ne h, fun j h => zpui_n2 h⟩
/-- coefficient -/
theorem s_La_coefficient {a1 a2 : Int32} {M : zM} {Q : Int32 → zM → Prop} (bad : ¬ (zR a1 4 ∧ zR a2 8) → Q 1 M) (good : ∀ r i, r < 4 → i < 8 → a1 = nI r → a2 = nI i → ∀ M', M' = zput M 119 0 ((M (2 + r) i).toInt32).toInt64 → Q 0 M') : w_La_coefficient a1 a2 M Q := by
  refine s_reg (fun h1 => s_place (fun h2 => ?_) (fun h2 => ⟨fun _ => bad (fun h => h2 h.2), rfl⟩)) (fun h1 => ⟨fun _ => bad (fun h => h1 h.1), rfl⟩)
  obtain ⟨r, hr, rfl⟩ := h1
  obtain ⟨i, hi, rfl⟩ := h2
  refine ⟨z_gn hr, ?_⟩
  rw [nI_clamp (by omega), nI_clamp (by omega)]
  exact ⟨z_l8 hr hi, z_o119, fun M4 e => good r i hr hi rfl rfl M4 e⟩
theorem s_Mo_coefficient {a1 a2 : Int32} {N : zN} {P : Int32 → zN → Prop} (bad : ¬ (zR a1 4 ∧ zR a2 8) → P 0 (zpui N 99 0 1)) (good : ∀ r i, r < 4 → i < 8 → a1 = nI r → a2 = nI i → P (N 100 (8 * r + i)) (zpui N 99 0 0)) : w_Mo_coefficient a1 a2 N P := by
  have hb : ¬ (zR a1 4 ∧ zR a2 8) → J_Mo_coefficient_23 P a1 a2 1 N := fun h N4 e => by
    subst e
    rw [zpui_eq]
    exact ⟨fun h => absurd h (by decide), fun _ => bad h⟩
  refine s_isReg (fun h1 => ⟨fun h => absurd h (by decide), fun _ => ?_⟩) (fun h1 => ⟨fun _ => hb (fun h => h1 h.1), fun h => absurd rfl h⟩)
  by_cases h2 : zR a2 8
  · obtain ⟨i, hi, rfl⟩ := id h2
    obtain ⟨r, hr, rfl⟩ := id h1
    refine ⟨fun h => absurd h (nI_pos (by omega)), fun _ => ⟨fun _ N4 e => ?_, fun h => absurd (nI_le (b := 7) (by omega) (by decide) : nI i ≤ nI 7) h⟩⟩
    subst e
    rw [zpui_eq, z_ix hr hi, nI_clamp (by omega)]
    refine ⟨fun _ => ⟨vp_in_nI (by show 8 * r + i < 32; omega) (by decide), ?_⟩, fun h => absurd (by decide) h⟩
    rw [zpui_ne (by decide)]
    exact good r i hr hi rfl rfl
  · have hb' := hb (fun h => h2 h.2)
    rcases zR_no (by decide) h2 with g | g
    · exact ⟨fun _ => hb', fun g' => absurd g g'⟩
    · refine ⟨fun _ => hb', fun _ => ⟨fun g' => ?_, fun _ => hb'⟩⟩
      have h8 : (8 : Int32) ≤ 7 := Int32.le_trans g g'
      exact absurd h8 (by decide)
