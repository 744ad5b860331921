/-! Residues, prime numbers. -/
def zrs (a p : Int64) : Int64 := if (0 : Int64) ≤ a - a / p * p then a - a / p * p else a - a / p * p + p
theorem s_residue {P : Int64 → Prop} {a p : Int64} (hp : (0 : Int64) < p) (k : P (zrs a p)) : w_Re_residue a p P := by
  unfold zrs at k
  refine ⟨fun _ => ⟨fun h => ?_, fun x1 e => ?_⟩, fun h => absurd hp h⟩
  · rw [h] at hp; exact absurd hp (by decide)
  · subst e
    exact ⟨fun h => by rw [if_pos h] at k; exact k, fun h => by rw [if_neg h] at k; exact k⟩
theorem s_left {P : Int64 → Prop} {a p : Int64} (hp : ¬ p = 0) (k : P (zrs a p)) : w_Mo_left a p P := by
  unfold zrs at k
  refine ⟨hp, fun x1 e => ?_⟩
  subst e
  exact ⟨fun h => by rw [if_pos h] at k; exact k, fun h => by rw [if_neg h] at k; exact k⟩
/-- no divisor from 2 up to the root -/
def zpr (x : Nat) : Prop := 2 ≤ x ∧ ∀ d, 2 ≤ d → d * d ≤ x → x % d ≠ 0
theorem s_Mo_isPrime {P : Int32 → Prop} {x : Nat} (hx : x < 2 ^ 40) (h1 : zpr x → P 1) (h0 : ¬ zpr x → P 0) : w_Mo_isPrimeNumber (lN x) P := by
  have sq : ∀ d : Nat, d < 2 ^ 30 → lN d * lN d = lN (d * d) := fun d _ => lN_mul d d
  have sqb : ∀ d : Nat, d < 2 ^ 30 → d * d < 2 ^ 60 := fun d hd => by
    have : d * d < 2 ^ 30 * 2 ^ 30 := Nat.mul_lt_mul'' hd hd
    have e : (2 : Nat) ^ 30 * 2 ^ 30 = 2 ^ 60 := by decide
    omega
  have stop : ∀ d : Nat, d < 2 ^ 30 → P 0 → ∃ n, L_Mo_isPrimeNumber_16 P (lN x) n 0 (lN d) := by
    intro d hd hP
    exact ⟨1, ⟨fun _ => ⟨rfl, hP⟩, fun _ => ⟨fun _ => ⟨rfl, hP⟩, fun h => absurd rfl h⟩⟩⟩
  refine ⟨fun h => ?_, fun h => ?_⟩
  · refine stop 2 (by decide) (h0 (fun g => ?_))
    have h := (pk_lLE (a := x) (b := 1) (by omega) (by decide)).mp h
    have := g.1
    omega
  · have h2 : 2 ≤ x := by
      rcases Nat.lt_or_ge x 2 with g | g
      · exact absurd ((pk_lLE (a := x) (b := 1) (by omega) (by decide)).mpr (by omega)) h
      · exact g
    have key : ∀ e d, d + e = 2 ^ 21 → 2 ≤ d → (∀ c, 2 ≤ c → c < d → c * c ≤ x → x % c ≠ 0) → ∃ n, L_Mo_isPrimeNumber_16 P (lN x) n 1 (lN d) := by
      intro e
      induction e with
      | zero =>
        intro d hd h2d hc
        have hdd : x < d * d := by
          have e : (2 : Nat) ^ 21 * 2 ^ 21 = 2 ^ 42 := by decide
          have : d = 2 ^ 21 := by omega
          rw [this, e]
          omega
        refine ⟨1, ⟨fun _ => ⟨rfl, h1 ⟨h2, fun c c2 cc => ?_⟩⟩, fun g => absurd ?_ g⟩⟩
        · refine hc c c2 ?_ cc
          rcases Nat.lt_or_ge c d with g | g
          · exact g
          · have := Nat.mul_le_mul g g
            omega
        · rw [sq d (by omega), pk_lLT (by omega) (by have := sqb d (by omega); omega)]
          exact hdd
      | succ e ih =>
        intro d hd h2d hc
        have hb := sqb d (by omega)
        by_cases hdd : x < d * d
        · refine ⟨1, ⟨fun _ => ⟨rfl, h1 ⟨h2, fun c c2 cc => ?_⟩⟩, fun g => absurd ?_ g⟩⟩
          · refine hc c c2 ?_ cc
            rcases Nat.lt_or_ge c d with g | g
            · exact g
            · have := Nat.mul_le_mul g g
              omega
          · rw [sq d (by omega), pk_lLT (by omega) (by omega)]
            exact hdd
        · have hnl : ¬ lN x < lN d * lN d := by
            rw [sq d (by omega), pk_lLT (by omega) (by omega)]
            exact hdd
          have hne : ¬ lN d = 0 := fun e => by
            have := (pk_lEQ (a := d) (b := 0) (by omega) (by decide)).mp e
            omega
          have hrem : lN x - lN x / lN d * lN d = lN (x % d) := pk_lRem (by omega) (by omega) (by omega)
          have hm : x % d < d := Nat.mod_lt _ (by omega)
          by_cases hz : x % d = 0
          · obtain ⟨n, hn⟩ := stop (d + 1) (by omega) (h0 (fun g => g.2 d h2d (by omega) hz))
            refine ⟨n + 1, ⟨fun g => absurd g hnl, fun _ => ⟨fun g => absurd g (by decide), fun _ => ⟨hne, fun _ y ey => ?_, fun g => absurd (by rw [hrem, hz]; rfl) g⟩⟩⟩⟩
            rw [ey, lN_1]
            exact hn
          · obtain ⟨n, hn⟩ := ih (d + 1) (by omega) (by omega) (fun c c2 cd cc => by
              by_cases e : c = d
              · rw [e]; exact hz
              · exact hc c c2 (by omega) cc)
            refine ⟨n + 1, ⟨fun g => absurd g hnl, fun _ => ⟨fun g => absurd g (by decide), fun _ => ⟨hne, fun g => ?_, fun _ y ey => ?_⟩⟩⟩⟩
            · exfalso
              rw [hrem] at g
              exact hz ((pk_lEQ (a := x % d) (b := 0) (by omega) (by decide)).mp g)
            · rw [ey, lN_1]
              exact hn
    exact key (2 ^ 21 - 2) 2 (by decide) (Nat.le_refl _) (fun c a b => by omega)
