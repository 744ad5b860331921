/-! greatest divisors, content. -/
def zab (x : Int64) : Nat := x.toInt.natAbs
theorem z_abs {x : Int64} (h : zab x < 2 ^ 62) : ((0 : Int64) ≤ x → x = lN (zab x)) ∧ (¬ (0 : Int64) ≤ x → -x = lN (zab x)) := by
  unfold zab at h ⊢
  rw [Int64.le_iff_toInt_le, z_99.2.2.2.1]
  refine ⟨fun h0 => ?_, fun h0 => ?_⟩
  · rw [← Int64.toInt_inj, pk_lT (by omega)]
    omega
  · rw [← Int64.toInt_inj, pk_lT (by omega), zx_neg (by omega)]
    omega
theorem z_gs {x y : Nat} (h0 : 0 < y) : Nat.gcd y (x % y) = Nat.gcd x y := by
  rw [Nat.gcd_comm x y, Nat.gcd_rec y x, Nat.gcd_comm]
theorem z_half {x y m : Nat} (h0 : 0 < y) (hy : y ≤ x) (h : x * y < 2 ^ (m + 1)) : y * (x % y) < 2 ^ m := by
  have h1 : x % y < y := Nat.mod_lt _ h0
  have h2 : x % y + y ≤ x := by
    have := Nat.div_add_mod x y
    have hq : 1 ≤ x / y := (Nat.one_le_div_iff h0).mpr hy
    have h3 : y * 1 ≤ y * (x / y) := Nat.mul_le_mul_left y hq
    omega
  have h4 : y * (x % y * 2) ≤ y * x := Nat.mul_le_mul_left y (by omega)
  rw [Nat.mul_comm x y] at h
  rw [Nat.pow_succ] at h
  rw [← Nat.mul_assoc] at h4
  omega
theorem z_gdl {P : Int64 → Prop} : ∀ m v x y : Nat, y ≤ x → x < 2 ^ 62 → x * y < 2 ^ m → v + m + 1 ≤ 100 → P (lN (Nat.gcd x y)) → ∃ n, L_Ro_greatestDivisor_31 P n (lN x) (lN y) (nI v) := by
  have hz : ∀ v x, v < 100 → P (lN (Nat.gcd x 0)) → ∃ n, L_Ro_greatestDivisor_31 P n (lN x) (lN 0) (nI v) := by
    intro v x hv hP
    rw [Nat.gcd_zero_right] at hP
    exact ⟨1, ⟨fun h => absurd h (nI_ge hv (by decide) : ¬ nI 100 ≤ nI v), fun _ => ⟨fun _ => hP, fun h => absurd rfl h⟩⟩⟩
  intro m
  induction m with
  | zero =>
    intro v x y hy hx h hv hP
    have : y = 0 := by
      rcases Nat.eq_zero_or_pos y with h0 | h0
      · exact h0
      · have : 1 * 1 ≤ x * y := Nat.mul_le_mul (by omega) h0
        omega
    subst this
    exact hz v x (by omega) hP
  | succ m ih =>
    intro v x y hy hx h hv hP
    rcases Nat.eq_zero_or_pos y with h0 | h0
    · subst h0
      exact hz v x (by omega) hP
    · have h1 : x % y < y := Nat.mod_lt _ h0
      obtain ⟨n, hn⟩ := ih (v + 1) y (x % y) (by omega) (by omega) (z_half h0 hy h) (by omega) (by rw [z_gs h0]; exact hP)
      have hne : ¬ lN y = 0 := fun e => by
        have := (pk_lEQ (a := y) (b := 0) (by omega) (by decide)).mp e
        omega
      refine ⟨n + 1, ⟨fun h => absurd h (nI_ge (by omega) (by decide) : ¬ nI 100 ≤ nI v), fun _ => ⟨fun h => absurd h hne, fun _ => ⟨hne, fun x2 e => ?_⟩⟩⟩⟩
      rw [e, pk_lRem (by omega) h0 (by omega), nI_1]
      exact hn
theorem s_Ro_greatestDivisor {P : Int64 → Prop} {a0 a2 : Int64} (h0 : zab a0 < 2 ^ 45) (h2 : zab a2 < 2 ^ 45) (k : P (lN (Nat.gcd (zab a0) (zab a2)))) : w_Ro_greatestDivisor a0 a2 P := by
  have key : ∃ n, L_Ro_greatestDivisor_31 P n (lN (zab a0)) (lN (zab a2)) (nI 0) := by
    generalize zab a0 = x at *
    generalize zab a2 = y at *
    rcases Nat.eq_zero_or_pos y with g | g
    · subst g
      exact z_gdl 1 0 x 0 (by omega) (by omega) (by rw [Nat.mul_zero]; decide) (by decide) k
    · have h1 : x % y < y := Nat.mod_lt _ g
      have h3 : y * (x % y) < 2 ^ 90 := by
        have : y * (x % y) ≤ y * 2 ^ 45 := Nat.mul_le_mul_left y (by omega)
        have : y * 2 ^ 45 < 2 ^ 45 * 2 ^ 45 := Nat.mul_lt_mul_of_pos_right h2 (by decide)
        have e : (2 : Nat) ^ 45 * 2 ^ 45 = 2 ^ 90 := by decide
        omega
      obtain ⟨n, hn⟩ := z_gdl (P := P) 90 1 y (x % y) (by omega) (by omega) h3 (by decide) (by rw [z_gs g]; exact k)
      have hne : ¬ lN y = 0 := fun e => by
        have := (pk_lEQ (a := y) (b := 0) (by omega) (by decide)).mp e
        omega
      refine ⟨n + 1, ⟨fun h => absurd h (by decide), fun _ => ⟨fun h => absurd h hne, fun _ => ⟨hne, fun x2 e => ?_⟩⟩⟩⟩
      rw [e, pk_lRem (by omega) g (by omega), nI_1]
      exact hn
  have hJ : ∀ t, t = lN (zab a0) → J_Ro_greatestDivisor_12 P a2 t := by
    intro t e
    subst e
    refine ⟨fun h => ?_, fun h x1 e => ?_⟩
    · have := (z_abs (x := a2) (by omega)).1 h
      rw [← this] at key
      exact key
    · rw [e, (z_abs (x := a2) (by omega)).2 h]
      exact key
  exact ⟨fun h => hJ _ ((z_abs (x := a0) (by omega)).1 h), fun h => hJ _ ((z_abs (x := a0) (by omega)).2 h)⟩
