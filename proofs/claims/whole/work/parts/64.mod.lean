/-! The class's prime numbers, the moduli, roots. -/
theorem s_IS_isPrime {P : Int32 → Prop} {x : Nat} (hx : x < 2 ^ 40) (h1 : zpr x → P 1) (h0 : ¬ zpr x → P 0) : w_IS_isPrimeNumber (lN x) P := by
  have sqb : ∀ d : Nat, d < 2 ^ 30 → d * d < 2 ^ 60 := fun d hd => by
    have : d * d < 2 ^ 30 * 2 ^ 30 := Nat.mul_lt_mul'' hd hd
    have e : (2 : Nat) ^ 30 * 2 ^ 30 = 2 ^ 60 := by decide
    omega
  have fin : ∀ d, 2 ≤ d → x < d * d → (∀ c, 2 ≤ c → c < d → c * c ≤ x → x % c ≠ 0) → (lN x ≤ (1 : Int64) → narrow .boolean (.int (0 : Int32)) = .int (0 : Int32) ∧ P (0 : Int32)) ∧ (¬ lN x ≤ (1 : Int64) → narrow .boolean (.int (1 : Int32)) = .int (1 : Int32) ∧ P (1 : Int32)) := by
    intro d h2d hdd hc
    refine ⟨fun h => ⟨rfl, h0 (fun g => ?_)⟩, fun h => ⟨rfl, h1 ⟨?_, fun c c2 cc => ?_⟩⟩⟩
    · have h := (pk_lLE (a := x) (b := 1) (by omega) (by decide)).mp h
      have := g.1
      omega
    · rcases Nat.lt_or_ge x 2 with g | g
      · exact absurd ((pk_lLE (a := x) (b := 1) (by omega) (by decide)).mpr (by omega)) h
      · exact g
    · refine hc c c2 ?_ cc
      rcases Nat.lt_or_ge c d with g | g
      · exact g
      · have := Nat.mul_le_mul g g
        omega
  have key : ∀ e d, d + e = 2 ^ 21 → 2 ≤ d → (∀ c, 2 ≤ c → c < d → c * c ≤ x → x % c ≠ 0) → ∃ n, L_IS_isPrimeNumber_4 P (lN x) n (lN d) := by
    intro e
    induction e with
    | zero =>
      intro d hd h2d hc
      have hdd : x < d * d := by
        have e : (2 : Nat) ^ 21 * 2 ^ 21 = 2 ^ 42 := by decide
        have : d = 2 ^ 21 := by omega
        rw [this, e]
        omega
      refine ⟨1, ⟨fun _ => fin d h2d hdd hc, fun g => absurd ?_ g⟩⟩
      rw [lN_mul, pk_lLT (by omega) (by have := sqb d (by omega); omega)]
      exact hdd
    | succ e ih =>
      intro d hd h2d hc
      have hb := sqb d (by omega)
      by_cases hdd : x < d * d
      · refine ⟨1, ⟨fun _ => fin d h2d hdd hc, fun g => absurd ?_ g⟩⟩
        rw [lN_mul, pk_lLT (by omega) (by omega)]
        exact hdd
      · have hnl : ¬ lN x < lN d * lN d := by
          rw [lN_mul, pk_lLT (by omega) (by omega)]
          exact hdd
        have hne : ¬ lN d = 0 := fun e => by
          have := (pk_lEQ (a := d) (b := 0) (by omega) (by decide)).mp e
          omega
        have hrem : lN x - lN x / lN d * lN d = lN (x % d) := pk_lRem (by omega) (by omega) (by omega)
        have hm : x % d < d := Nat.mod_lt _ (by omega)
        by_cases hz : x % d = 0
        · exact ⟨1, ⟨fun g => absurd g hnl, fun _ => ⟨hne, fun g => absurd (by rw [hrem, hz]; rfl) g, fun _ => ⟨rfl, h0 (fun g => g.2 d h2d (by omega) hz)⟩⟩⟩⟩
        · obtain ⟨n, hn⟩ := ih (d + 1) (by omega) (by omega) (fun c c2 cd cc => by
            by_cases e : c = d
            · rw [e]; exact hz
            · exact hc c c2 (by omega) cc)
          refine ⟨n + 1, ⟨fun g => absurd g hnl, fun _ => ⟨hne, fun _ y ey => ?_, fun g => ?_⟩⟩⟩
          · rw [ey, lN_1]
            exact hn
          · exfalso
            rw [hrem] at g
            exact hz ((pk_lEQ (a := x % d) (b := 0) (by omega) (by decide)).mp g)
  exact key (2 ^ 21 - 2) 2 (by decide) (Nat.le_refl _) (fun c a b => by omega)
theorem s_IS_isPrimeN {P : Int32 → Prop} {a : Int64} (ha : a < 0) (h0 : P 0) : w_IS_isPrimeNumber a P := by
  rw [Int64.lt_iff_toInt_lt, z_99.2.2.2.1] at ha
  have h1 : a < (2 : Int64) * (2 : Int64) := by
    rw [Int64.lt_iff_toInt_lt, show ((2 : Int64) * 2).toInt = 4 by decide]; omega
  have h2 : a ≤ (1 : Int64) := by
    rw [Int64.le_iff_toInt_le, show (1 : Int64).toInt = 1 by decide]; omega
  exact ⟨1, ⟨fun _ => ⟨fun _ => ⟨rfl, h0⟩, fun g => absurd h2 g⟩, fun g => absurd h1 g⟩⟩
/-- the moduli -/
def zmo (a : Int32) : Prop := ∃ p, (p = 2 ∨ p = 3 ∨ p = 5 ∨ p = 7 ∨ p = 11 ∨ p = 13) ∧ a = nI p
theorem zpr13 {j : Nat} (hj : j ≤ 13) : zpr j ↔ (j = 2 ∨ j = 3 ∨ j = 5 ∨ j = 7 ∨ j = 11 ∨ j = 13) := by
  constructor
  · intro ⟨h2, h⟩
    have h22 := h 2 (by decide)
    have h33 := h 3 (by decide)
    omega
  · intro h
    refine ⟨by omega, fun d hd hdd => ?_⟩
    have h4 : d < 4 := by
      rcases Nat.lt_or_ge d 4 with g | g
      · exact g
      · have := Nat.mul_le_mul g g
        omega
    have : d = 2 ∨ d = 3 := by omega
    rcases this with rfl | rfl <;> omega
theorem s_modulus {a : Int32} {P : Prop} {X : Nat → Prop} (hP : zmo a → P) (hX : ¬ zmo a → X 2) : w_IS_requireModulus a P X := by
  have e13 : (13 : Int32).toInt = 13 := by decide
  refine ⟨fun h => hX (fun ⟨p, hp, e⟩ => ?_), fun h => ?_⟩
  · rw [e, Int32.lt_iff_toInt_lt, nI_toInt (by omega), e13] at h
    omega
  · by_cases h0 : a < 0
    · have hn : ¬ zmo a := fun ⟨p, hp, e⟩ => by
        rw [e] at h0
        exact nI_pos (by omega) h0
      refine s_IS_isPrimeN ?_ ⟨fun g => absurd rfl g, fun _ => hX hn⟩
      rw [Int32.lt_iff_toInt_lt] at h0
      rw [Int64.lt_iff_toInt_lt, Int32.toInt_toInt64]
      exact h0
    · obtain ⟨j, hj, e⟩ := nI_of2 (M := 13) (n := 13) e13 h0 (Int32.not_lt.mp h)
      subst e
      rw [nI_l (by omega)]
      refine s_IS_isPrime (by omega) (fun g => ⟨fun _ => hP ⟨j, (zpr13 hj).mp g, rfl⟩, fun g => absurd g (by decide)⟩) (fun g => ⟨fun g => absurd rfl g, fun _ => hX (fun ⟨p, hp, e⟩ => ?_)⟩)
      have : j = p := (nI_eq (by omega) (by omega)).mp e
      subst this
      exact g ((zpr13 hj).mpr hp)
theorem s_isSmall {a : Int32} {P : Int32 → Prop} (hP : zmo a → P 1) (hX : ¬ zmo a → P 0) : w_Mo_isSmall a P := by
  refine ⟨fun e => ⟨rfl, hP ⟨2, by omega, e⟩⟩, fun n2 => ⟨fun e => ⟨rfl, hP ⟨3, by omega, e⟩⟩, fun n3 => ⟨fun e => ⟨rfl, hP ⟨5, by omega, e⟩⟩, fun n5 => ⟨fun e => ⟨rfl, hP ⟨7, by omega, e⟩⟩, fun n7 => ⟨fun e => ⟨rfl, hP ⟨11, by omega, e⟩⟩, fun n11 => ⟨fun n13 => ⟨rfl, hX ?_⟩, fun e => ⟨rfl, hP ⟨13, by omega, e⟩⟩⟩⟩⟩⟩⟩⟩
  rintro ⟨p, hp, e⟩
  rcases hp with rfl | rfl | rfl | rfl | rfl | rfl
  · exact n2 e
  · exact n3 e
  · exact n5 e
  · exact n7 e
  · exact n11 e
  · exact n13 e
/-- value at a modulo p, from the place n - 1 down -/
def zhr (f : Nat → Int64) (a p : Int64) : Nat → Int64 → Int64
  | 0, x => x
  | n + 1, x => zhr f a p n (zrs (x * a + f n) p)
theorem zhr_congr {f g : Nat → Int64} {a p : Int64} : ∀ n x, (∀ i, i < n → f i = g i) → zhr f a p n x = zhr g a p n x
  | 0, _, _ => rfl
  | n + 1, x, h => by
    unfold zhr
    rw [h n (by omega)]
    exact zhr_congr n _ (fun i hi => h i (by omega))
/-- how many of 0 .. n - 1 are roots modulo p -/
def zrc (f : Nat → Int64) (p : Int64) : Nat → Nat
  | 0 => 0
  | n + 1 => zrc f p n + (if zhr f (nI n).toInt64 p 8 0 = 0 then 1 else 0)
theorem zrc_congr {f g : Nat → Int64} {p : Int64} (h : ∀ i, i < 8 → f i = g i) : ∀ n, zrc f p n = zrc g p n
  | 0 => rfl
  | n + 1 => by
    unfold zrc
    rw [zrc_congr h n, zhr_congr 8 0 h]
theorem s_IS_roots {r p : Nat} {M : zM} {P : Int32 → Prop} {X : Nat → Prop} (hr : r < 4) (hp : zmo (nI p)) (h0 : 0 < p) (hb : p < 100) (k : P (nI (zrc (M (2 + r)) (nI p).toInt64 p))) : w_IS_roots (nI r) (nI p) M P X := by
  refine s_reg (fun _ => s_modulus (fun _ => ?_) (fun h => absurd hp h)) (fun h => absurd ⟨r, hr, rfl⟩ h)
  have hpp : (0 : Int64) < (nI p).toInt64 := by
    rw [nI_l (by omega)]
    exact (pk_lLT (a := 0) (b := p) (by decide) (by omega)).mpr h0
  have key : ∀ d j, j + d = p → L_IS_roots_13 P X (nI r) (nI p) M (d + 1) (nI (zrc (M (2 + r)) (nI p).toInt64 j)) (nI j) := by
    intro d
    induction d with
    | zero =>
      intro j hj
      have : j = p := by omega
      subst this
      exact ⟨fun _ => k, fun h => absurd (nI_le (Nat.le_refl _) (by omega)) h⟩
    | succ d ih =>
      intro j hj
      refine ⟨fun h => absurd h (nI_ge (by omega) (by omega)), fun _ => ?_⟩
      have hstep := ih (j + 1) (by omega)
      have inner : ∀ i x, i ≤ 8 → zhr (M (2 + r)) (nI j).toInt64 (nI p).toInt64 i x = zhr (M (2 + r)) (nI j).toInt64 (nI p).toInt64 8 0 → ∃ n, L_IS_roots_26 P X (L_IS_roots_13 P X (nI r) (nI p) M (d + 1)) (nI r) (nI p) (nI (zrc (M (2 + r)) (nI p).toInt64 j)) (nI j) M n x (nI i + (-1)) := by
        intro i
        induction i with
        | zero =>
          intro x _ hx
          have hx : x = zhr (M (2 + r)) (nI j).toInt64 (nI p).toInt64 8 0 := hx
          refine ⟨1, ⟨fun _ => ⟨fun g y ey => ?_, fun g y ey => ?_⟩, fun h => absurd (by decide) h⟩⟩
          · rw [ey, nI_1, Int32.add_zero]
            unfold zrc at hstep
            rw [← hx, if_neg g] at hstep
            exact hstep
          · rw [ey, nI_1, nI_1]
            unfold zrc at hstep
            rw [← hx, if_pos g] at hstep
            exact hstep
        | succ i ih2 =>
          intro x hi hx
          obtain ⟨n, hn⟩ := ih2 (zrs (x * (nI j).toInt64 + M (2 + r) i) (nI p).toInt64) (by omega) hx
          refine ⟨n + 1, ?_⟩
          rw [pk_m1]
          refine ⟨fun h => absurd h (nI_pos (by omega)), fun _ => ⟨z_gn hr, ?_⟩⟩
          rw [nI_clamp (by omega), nI_clamp (by omega)]
          exact ⟨z_l8 hr (by omega), s_residue hpp hn⟩
      exact inner 8 0 (by decide) rfl
  exact ⟨_, key p 0 (by omega)⟩
