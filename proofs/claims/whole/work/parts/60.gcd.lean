/-! greatest divisors, content. -/
def zab (x : Int64) : Nat := x.toInt.natAbs
theorem z_abs {x : Int64} (h : zab x < 2 ^ 62) : ((0 : Int64) ≤ x → x = lN (zab x)) ∧ (¬ (0 : Int64) ≤ x → -x = lN (zab x)) := by
  unfold zab at h ⊢
  rw [Int64.le_iff_toInt_le, z_99.2.2.2.1]
  refine ⟨fun h0 => ?_, fun h0 => ?_⟩
  · rw [← Int64.toInt_inj, pk_lT (by omega)]
    omega
  · rw [← Int64.toInt_inj, pk_lT (by omega), zx_neg (by omega)]
    omega
theorem z_gs {x y : Nat} (h0 : 0 < y) : Nat.gcd y (x % y) = Nat.gcd x y := by
  rw [Nat.gcd_comm x y, Nat.gcd_rec y x, Nat.gcd_comm]
theorem z_half {x y m : Nat} (h0 : 0 < y) (hy : y ≤ x) (h : x * y < 2 ^ (m + 1)) : y * (x % y) < 2 ^ m := by
  have h1 : x % y < y := Nat.mod_lt _ h0
  have h2 : x % y + y ≤ x := by
    have := Nat.div_add_mod x y
    have hq : 1 ≤ x / y := (Nat.one_le_div_iff h0).mpr hy
    have h3 : y * 1 ≤ y * (x / y) := Nat.mul_le_mul_left y hq
    omega
  have h4 : y * (x % y * 2) ≤ y * x := Nat.mul_le_mul_left y (by omega)
  rw [Nat.mul_comm x y] at h
  rw [Nat.pow_succ] at h
  rw [← Nat.mul_assoc] at h4
  omega
theorem z_gdl {P : Int64 → Prop} : ∀ m v x y : Nat, y ≤ x → x < 2 ^ 62 → x * y < 2 ^ m → v + m + 1 ≤ 100 → P (lN (Nat.gcd x y)) → ∃ n, L_Ro_greatestDivisor_31 P n (lN x) (lN y) (nI v) := by
  have hz : ∀ v x, v < 100 → P (lN (Nat.gcd x 0)) → ∃ n, L_Ro_greatestDivisor_31 P n (lN x) (lN 0) (nI v) := by
    intro v x hv hP
    rw [Nat.gcd_zero_right] at hP
    exact ⟨1, ⟨fun h => absurd h (nI_ge hv (by decide) : ¬ nI 100 ≤ nI v), fun _ => ⟨fun _ => hP, fun h => absurd rfl h⟩⟩⟩
  intro m
  induction m with
  | zero =>
    intro v x y hy hx h hv hP
    have : y = 0 := by
      rcases Nat.eq_zero_or_pos y with h0 | h0
      · exact h0
      · have : 1 * 1 ≤ x * y := Nat.mul_le_mul (by omega) h0
        omega
    subst this
    exact hz v x (by omega) hP
  | succ m ih =>
    intro v x y hy hx h hv hP
    rcases Nat.eq_zero_or_pos y with h0 | h0
    · subst h0
      exact hz v x (by omega) hP
    · have h1 : x % y < y := Nat.mod_lt _ h0
      obtain ⟨n, hn⟩ := ih (v + 1) y (x % y) (by omega) (by omega) (z_half h0 hy h) (by omega) (by rw [z_gs h0]; exact hP)
      have hne : ¬ lN y = 0 := fun e => by
        have := (pk_lEQ (a := y) (b := 0) (by omega) (by decide)).mp e
        omega
      refine ⟨n + 1, ⟨fun h => absurd h (nI_ge (by omega) (by decide) : ¬ nI 100 ≤ nI v), fun _ => ⟨fun h => absurd h hne, fun _ => ⟨hne, fun x2 e => ?_⟩⟩⟩⟩
      rw [e, pk_lRem (by omega) h0 (by omega), nI_1]
      exact hn
theorem s_Ro_greatestDivisor {P : Int64 → Prop} {a0 a2 : Int64} (h0 : zab a0 < 2 ^ 45) (h2 : zab a2 < 2 ^ 45) (k : P (lN (Nat.gcd (zab a0) (zab a2)))) : w_Ro_greatestDivisor a0 a2 P := by
  have key : ∃ n, L_Ro_greatestDivisor_31 P n (lN (zab a0)) (lN (zab a2)) (nI 0) := by
    generalize zab a0 = x at *
    generalize zab a2 = y at *
    rcases Nat.eq_zero_or_pos y with g | g
    · subst g
      exact z_gdl 1 0 x 0 (by omega) (by omega) (by rw [Nat.mul_zero]; decide) (by decide) k
    · have h1 : x % y < y := Nat.mod_lt _ g
      have h3 : y * (x % y) < 2 ^ 90 := by
        have : y * (x % y) ≤ y * 2 ^ 45 := Nat.mul_le_mul_left y (by omega)
        have : y * 2 ^ 45 < 2 ^ 45 * 2 ^ 45 := Nat.mul_lt_mul_of_pos_right h2 (by decide)
        have e : (2 : Nat) ^ 45 * 2 ^ 45 = 2 ^ 90 := by decide
        omega
      obtain ⟨n, hn⟩ := z_gdl (P := P) 90 1 y (x % y) (by omega) (by omega) h3 (by decide) (by rw [z_gs g]; exact k)
      have hne : ¬ lN y = 0 := fun e => by
        have := (pk_lEQ (a := y) (b := 0) (by omega) (by decide)).mp e
        omega
      refine ⟨n + 1, ⟨fun h => absurd h (by decide), fun _ => ⟨fun h => absurd h hne, fun _ => ⟨hne, fun x2 e => ?_⟩⟩⟩⟩
      rw [e, pk_lRem (by omega) g (by omega), nI_1]
      exact hn
  have hJ : ∀ t, t = lN (zab a0) → J_Ro_greatestDivisor_12 P a2 t := by
    intro t e
    subst e
    refine ⟨fun h => ?_, fun h x1 e => ?_⟩
    · have := (z_abs (x := a2) (by omega)).1 h
      rw [← this] at key
      exact key
    · rw [e, (z_abs (x := a2) (by omega)).2 h]
      exact key
  exact ⟨fun h => hJ _ ((z_abs (x := a0) (by omega)).1 h), fun h => hJ _ ((z_abs (x := a0) (by omega)).2 h)⟩
theorem s_amount {P : Int64 → Prop} {x : Int64} (h : zab x < 2 ^ 62) (k : P (lN (zab x))) : w_Mo_amount x P :=
  ⟨fun h0 => by rw [← (z_abs h).1 h0] at k; exact k, fun h0 => by rw [(z_abs h).2 h0]; exact k⟩
theorem z_mdl {P : Int64 → Prop} : ∀ y x : Nat, x < 2 ^ 62 → y < 2 ^ 62 → P (lN (Nat.gcd x y)) → ∃ n, L_Mo_divisor_12 P n (lN x) (lN y) := by
  intro y
  induction y using Nat.strongRecOn with
  | ind y ih =>
    intro x hx hy hP
    rcases Nat.eq_zero_or_pos y with h0 | h0
    · subst h0
      rw [Nat.gcd_zero_right] at hP
      exact ⟨1, ⟨fun _ => hP, fun h => absurd (by decide) h⟩⟩
    · have h1 : x % y < y := Nat.mod_lt _ h0
      obtain ⟨n, hn⟩ := ih (x % y) h1 y hy (by omega) (by rw [z_gs h0]; exact hP)
      have hne : ¬ lN y = 0 := fun e => by
        have := (pk_lEQ (a := y) (b := 0) (by omega) (by decide)).mp e
        omega
      have hle : ¬ lN y ≤ 0 := fun e => by
        have := (pk_lLE (a := y) (b := 0) (by omega) (by decide)).mp e
        omega
      refine ⟨n + 1, ⟨fun h => absurd h hle, fun _ => ⟨hne, fun x2 e => ?_⟩⟩⟩
      rw [e, pk_lRem (by omega) h0 (by omega)]
      exact hn
theorem s_Mo_divisor {P : Int64 → Prop} {a0 a2 : Int64} (h0 : zab a0 < 2 ^ 62) (h2 : zab a2 < 2 ^ 62) (k : P (lN (Nat.gcd (zab a0) (zab a2)))) : w_Mo_divisor a0 a2 P :=
  s_amount h0 (s_amount h2 (z_mdl _ _ h0 h2 k))
/-- the greatest divisor of the first n places -/
def zgc (f : Nat → Int64) : Nat → Nat
  | 0 => 0
  | n + 1 => Nat.gcd (zgc f n) (zab (f n))
theorem zgc_le {f : Nat → Int64} {B : Nat} : ∀ n, (∀ i, i < n → zab (f i) ≤ B) → zgc f n ≤ B
  | 0, _ => Nat.zero_le _
  | n + 1, h => by
    have ih := zgc_le n (fun i hi => h i (by omega))
    show Nat.gcd (zgc f n) (zab (f n)) ≤ B
    rcases Nat.eq_zero_or_pos (zgc f n) with g | g
    · rw [g, Nat.gcd_zero_left]; exact h n (by omega)
    · exact Nat.le_trans (Nat.gcd_le_left _ g) ih
theorem zgc_congr {f g : Nat → Int64} : ∀ n, (∀ i, i < n → f i = g i) → zgc f n = zgc g n
  | 0, _ => rfl
  | n + 1, h => by
    show Nat.gcd (zgc f n) (zab (f n)) = Nat.gcd (zgc g n) (zab (g n))
    rw [zgc_congr n (fun i hi => h i (by omega)), h n (by omega)]
theorem zgc_up {f : Nat → Int64} {n m : Nat} (hnm : n ≤ m) (h : ∀ i, n ≤ i → i < m → f i = 0) : zgc f m = zgc f n := by
  induction m with
  | zero => rw [Nat.le_zero.mp hnm]
  | succ m ih =>
    rcases Nat.lt_or_ge m n with h1 | h1
    · rw [show n = m + 1 by omega]
    · show Nat.gcd (zgc f m) (zab (f m)) = _
      rw [h m h1 (by omega), show zab 0 = 0 from rfl, Nat.gcd_zero_right]
      exact ih h1 (fun i a b => h i a (by omega))
theorem zab_lN {n : Nat} (h : n < 2 ^ 63) : zab (lN n) = n := by
  unfold zab
  rw [pk_lT h]
  omega
theorem s_Ro_contentOf {P : Int64 → Prop} {a0 n : Nat} {M : zM} (hz : zlong a0 = n) (h0 : 0 < n) (hn : n < 100) (hb : ∀ i, i < n → zab (M a0 i) < 2 ^ 45) (k : P (lN (zgc (M a0) n))) : w_Ro_contentOf a0 M P := by
  have hle : ∀ j, j ≤ n → zgc (M a0) j ≤ 2 ^ 45 - 1 := fun j hj => zgc_le j (fun i hi => by have := hb i (by omega); omega)
  have key : ∀ d j, j + d = n → L_Ro_contentOf_4 P a0 M (d + 1) (lN (zgc (M a0) j)) (nI j) := by
    intro d
    induction d with
    | zero =>
      intro j hj
      have : j = n := by omega
      subst this
      refine ⟨by omega, fun _ => k, fun h => absurd ?_ h⟩
      rw [hz]
      exact nI_le (Nat.le_refl _) (by omega)
    | succ d ih =>
      intro j hj
      have h1 := hle j (by omega)
      refine ⟨by omega, fun h => absurd h ?_, fun _ => ⟨by rw [hz]; exact vp_in_nI (by omega) (by omega), ?_⟩⟩
      · rw [hz]
        exact nI_ge (by omega) (by omega)
      · rw [nI_clamp (by omega)]
        refine s_Ro_greatestDivisor (by rw [zab_lN (by omega)]; omega) (hb j (by omega)) ?_
        rw [zab_lN (by omega), nI_1]
        exact ih (j + 1) (by omega)
  exact ⟨_, key n 0 (by omega)⟩
theorem s_Mo_contentOf {P : Int64 → Prop} {a0 : Nat} {M : zM} (hz : zlong a0 = 16) (hb : ∀ i, i < 16 → zab (M a0 i) < 2 ^ 62) (k : P (lN (zgc (M a0) 16))) : w_Mo_contentOf a0 M P := by
  have hle : ∀ j, j ≤ 16 → zgc (M a0) j ≤ 2 ^ 62 - 1 := fun j hj => zgc_le j (fun i hi => by have := hb i (by omega); omega)
  have key : ∀ d j, j + d = 16 → L_Mo_contentOf_4 P a0 M (d + 1) (lN (zgc (M a0) j)) (nI j) := by
    intro d
    induction d with
    | zero =>
      intro j hj
      have : j = 16 := by omega
      subst this
      exact ⟨fun _ => k, fun h => absurd (by decide) h⟩
    | succ d ih =>
      intro j hj
      have h1 := hle j (by omega)
      refine ⟨fun h => absurd h (nI_ge (by omega) (by omega) : ¬ nI 16 ≤ nI j), fun _ => ⟨by rw [hz]; exact vp_in_nI (by omega) (by omega), ?_⟩⟩
      rw [nI_clamp (by omega)]
      refine s_Mo_divisor (by rw [zab_lN (by omega)]; omega) (hb j (by omega)) ?_
      rw [zab_lN (by omega), nI_1]
      exact ih (j + 1) (by omega)
  exact ⟨_, key 16 0 (by omega)⟩
theorem z_regab {M : zM} {N : zN} (hI : zreg M N) {r i : Nat} (hr : r < 4) (hi : i < 8) : zab (M (2 + r) i) ≤ 99999 := by
  obtain ⟨h1, h2, h3⟩ := hI r i hr hi
  unfold zab
  rw [h1, Int32.toInt_toInt64]
  omega
theorem z_ldab {M : zM} {N : zN} (hI : zreg M N) {r : Nat} (i : Nat) (hr : r < 4) : zab (zld N r i) ≤ 99999 := by
  rcases Nat.lt_or_ge i 8 with h | h
  · rw [z_ld hI hr h]; exact z_regab hI hr h
  · rw [z_ld0 h]; decide
theorem u_content {a1 : Int32} {M : zM} {N : zN} {K : zM → zN → Prop} {Q : Int32 → zM → Prop} (hI : zreg M N) (hk : ∀ M' N', zreg M' N' → zkp M N M' N' → K M' N') (hQ : ∀ q M1, w_Mo_content a1 M1 N (fun r4 M5 N6 => zth K q r4 M5 N6) → Q q M1) : w_La_content a1 M Q := by
  refine s_reg (fun h1 => ?_) (fun h1 => ⟨fun _ => hQ _ _ ?_, rfl⟩)
  · obtain ⟨r, hr, rfl⟩ := h1
    refine ⟨z_gn hr, ?_⟩
    rw [nI_clamp (by omega)]
    refine s_Ro_contentOf (z_r8 hr) (by decide) (by decide) (fun i hi => by have : zab (M (1 + 1 + r) i) ≤ 99999 := z_regab hI hr hi; omega) ⟨z_o119, fun M1 e1 => hQ _ _ ?_⟩
    have e1 : M1 = zput M 119 0 (lN (zgc (M (2 + r)) 8)).toInt32.toInt64 := e1
    refine s_isReg (fun _ => ⟨fun h => absurd h (by decide), fun _ N0 e0 => ?_⟩) (fun h => absurd ⟨r, hr, rfl⟩ h)
    have hz : N0 99 0 = 0 := by rw [e0, zpui_eq]
    have hzl : ∀ q, zld N0 q = zld N q := fun q => by rw [e0]; unfold zld; rw [zpui_ne (by decide)]
    rw [hz]
    refine ⟨fun _ => s_Mo_load hr (by decide) (fun Ma a1 a2 => ?_), fun h => absurd (by decide) h⟩
    have v6 : ∀ i, i < 16 → Ma 106 i = zld N r i := fun i hi => by rw [a2 i hi, hzl]
    refine s_Mo_contentOf (by decide) (fun i hi => by rw [v6 i hi]; have := z_ldab hI i hr; omega) ?_
    have hc : zgc (Ma 106) 16 = zgc (M (2 + r)) 8 := by
      rw [zgc_congr 16 v6, zgc_up (n := 8) (by decide) (fun i a _ => z_ld0 a)]
      exact zgc_congr 8 (fun i hi => z_ld hI hr hi)
    rw [hc]
    refine z_th hz (fun _ => by rw [a1 119 (by decide), e1, zput_eq]) (hk _ _ (fun r' i hr' hi => ?_) ⟨fun k x y => ?_, ?_, ?_⟩)
    · rw [a1 _ (by omega), e1, e0]
      exact z_reg119 (z_reg0 hI 0) _ _ r' i hr' hi
    · rw [a1 k (by omega), e1, zput_ne (by omega)]
    · rw [e0]; exact (z_kp0 (M := M) 0).2.1
    · rw [e0]; exact (z_kp0 (M := M) 0).2.2
  · refine s_isReg (fun h => absurd h h1) (fun _ => ⟨fun _ N4 e => ?_, fun h => absurd rfl h⟩)
    subst e
    rw [zpui_eq]
    exact ⟨fun h => absurd h (by decide), fun _ => z_th zpui_eq (fun h => absurd h (by decide)) (hk _ _ (z_reg0 hI 1) (z_kp0 1))⟩
