/-! Division of rows. -/
theorem plow {D b : Nat → Int} {k low : Nat} (hb : b low ≠ 0) (hb0 : ∀ i, low < i → b i = 0) (h : ∀ i, k + low ≤ i → pmul D b i = 0) : ∀ n, (∀ i, n ≤ i → D i = 0) → ∀ j, k ≤ j → D j = 0 := by
  intro n
  induction n with
  | zero => intro h0 j _; exact h0 j (Nat.zero_le _)
  | succ n ih =>
    intro h0 j hj
    by_cases hn : k ≤ n
    · have h1 : pmul D b (n + low) = D n * b low := pmul_top (fun i hi => h0 i hi) hb0
      rw [h (n + low) (by omega)] at h1
      have h2 : D n = 0 := by
        rcases Int.mul_eq_zero.mp h1.symm with g | g
        · exact g
        · exact absurd g hb
      refine ih (fun i hi => ?_) j hj
      by_cases e : i = n
      · rw [e]; exact h2
      · exact h0 i (by omega)
    · exact h0 j (by omega)
/-- a row of n places as whole numbers -/
def pr (n : Nat) (f : Nat → Int64) : Nat → Int := fun i => if i < n then (f i).toInt else 0
theorem pr_lt {n i : Nat} {f : Nat → Int64} (h : i < n) : pr n f i = (f i).toInt := if_pos h
theorem pr_ge {n i : Nat} {f : Nat → Int64} (h : n ≤ i) : pr n f i = 0 := if_neg (by omega)
theorem pr_put {n j i : Nat} {f : Nat → Int64} {x : Int64} (hj : j < n) : pr n (vp_updL f j x) i = if i = j then x.toInt else pr n f i := by
  unfold pr vp_updL
  by_cases e : i = j
  · subst e
    rw [if_pos hj, if_pos rfl, if_pos rfl]
  · rw [if_neg e]
    by_cases h : i < n
    · rw [if_pos h, if_neg e]
    · rw [if_neg h, if_neg e]
/-- a = q b with no place of q beyond 10^8 -/
def pdiv (a b q : Nat → Int) : Prop := (∀ i, -100000000 ≤ q i ∧ q i ≤ 100000000) ∧ (∀ i, 8 ≤ i → q i = 0) ∧ ∀ k, pmul q b k = a k
theorem pdiv_unique {a b q q' : Nat → Int} {low : Nat} (hb : b low ≠ 0) (hb0 : ∀ i, low < i → b i = 0) (h : pdiv a b q) (h' : pdiv a b q') : ∀ i, q i = q' i := by
  have key := plow (D := fun i => q i - q' i) (k := 0) hb hb0 (fun i _ => by rw [pmul_sub, h.2.2, h'.2.2]; omega) 8 (fun i hi => by show q i - q' i = 0; rw [h.2.1 i hi, h'.2.1 i hi]; rfl)
  intro i
  have := key i (Nat.zero_le _)
  omega
theorem zx_div {x y : Int64} (h : x.toInt.natAbs < 2 ^ 62) : (x / y).toInt = x.toInt.tdiv y.toInt := by
  rw [Int64.toInt_div]
  have h1 : (x.toInt.tdiv y.toInt).natAbs ≤ x.toInt.natAbs := by
    rw [Int.natAbs_tdiv]
    exact Nat.div_le_self _ _
  exact Int.bmod_eq_of_le_mul_two (by omega) (by omega)
/-- the division under way: the places from k on of the quotient are known, R is the rest -/
def pinv (a b : Nat → Int) (low k : Nat) (R Q : Nat → Int) : Prop := (∀ i, k + low ≤ i → R i = 0) ∧ (∀ j, j < k → Q j = 0) ∧ (∀ j, 8 ≤ j → Q j = 0) ∧ (∀ j, -100000000 ≤ Q j ∧ Q j ≤ 100000000) ∧ ∀ i, pmul Q b i + R i = a i
theorem pinv_D {a b R Q q : Nat → Int} {low k : Nat} (hI : pinv a b low k R Q) (hq : pdiv a b q) (i : Nat) : pmul (fun j => q j - Q j) b i = R i := by
  rw [pmul_sub, hq.2.2]
  have := hI.2.2.2.2 i
  omega
theorem pinv_hi {a b R Q q : Nat → Int} {low k : Nat} (hb : b low ≠ 0) (hb0 : ∀ i, low < i → b i = 0) (hI : pinv a b low k R Q) (hq : pdiv a b q) : ∀ j, k ≤ j → q j - Q j = 0 :=
  plow (D := fun j => q j - Q j) hb hb0 (fun i hi => by rw [pinv_D hI hq]; exact hI.1 i hi) 8 (fun i hi => by show q i - Q i = 0; rw [hq.2.1 i hi, hI.2.2.1 i hi]; rfl)
theorem pinv_top {a b R Q q : Nat → Int} {low k : Nat} (hb : b low ≠ 0) (hb0 : ∀ i, low < i → b i = 0) (hI : pinv a b low (k + 1) R Q) (hq : pdiv a b q) : R (k + low) = q k * b low := by
  have h := pinv_hi hb hb0 hI hq
  have h1 : pmul (fun j => q j - Q j) b (k + low) = (q k - Q k) * b low := pmul_top (fun i hi => h i (by omega)) hb0
  rw [pinv_D hI hq, hI.2.1 k (by omega), Int.sub_zero] at h1
  exact h1
theorem pinv_step {a b R Q : Nat → Int} {low k : Nat} {t : Int} (hk : k < 8) (hb0 : ∀ i, low < i → b i = 0) (hI : pinv a b low (k + 1) R Q) (ht : R (k + low) = t * b low) (h1 : -100000000 ≤ t) (h2 : t ≤ 100000000) {R' Q' : Nat → Int} (hR : ∀ i, R' i = R i - (if k ≤ i then t * b (i - k) else 0)) (hQ : ∀ j, Q' j = if j = k then t else Q j) : pinv a b low k R' Q' := by
  refine ⟨fun i hi => ?_, fun j hj => ?_, fun j hj => ?_, fun j => ?_, fun i => ?_⟩
  · rw [hR i, if_pos (by omega)]
    by_cases e : i = k + low
    · rw [e, show k + low - k = low by omega, ht]; omega
    · rw [hI.1 i (by omega), hb0 (i - k) (by omega), Int.mul_zero]; rfl
  · rw [hQ j, if_neg (by omega)]
    exact hI.2.1 j (by omega)
  · rw [hQ j, if_neg (by omega)]
    exact hI.2.2.1 j hj
  · rw [hQ j]
    by_cases e : j = k
    · rw [if_pos e]; exact ⟨h1, h2⟩
    · rw [if_neg e]; exact hI.2.2.2.1 j
  · have e1 : pmul Q' b i = pmul (fun j => Q j + pone t k j) b i := pmul_congr (fun j _ => by
      rw [hQ j]
      unfold pone
      by_cases e : j = k
      · rw [if_pos e, if_pos e, e, hI.2.1 k (by omega)]; omega
      · rw [if_neg e, if_neg e]; omega) (fun _ _ => rfl)
    rw [e1, pmul_add, pmul_one, hR i]
    have := hI.2.2.2.2 i
    omega
theorem pmul_z {b : Nat → Int} {D : Nat → Int} (h : ∀ i, D i = 0) (k : Nat) : pmul D b k = 0 := by
  unfold pmul
  exact psum_zero (fun i _ => by rw [h i, Int.zero_mul])
theorem pinv_end {a b R Q : Nat → Int} {low : Nat} (hI : pinv a b low 0 R Q) (h : ∀ i, R i = 0) : pdiv a b Q :=
  ⟨hI.2.2.2.1, hI.2.2.1, fun k => by have := hI.2.2.2.2 k; rw [h k] at this; omega⟩
theorem pinv_no {a b R Q q : Nat → Int} {low : Nat} (hb : b low ≠ 0) (hb0 : ∀ i, low < i → b i = 0) (hI : pinv a b low 0 R Q) (hq : pdiv a b q) : ∀ i, R i = 0 := fun i => by
  have h := pinv_hi hb hb0 hI hq
  rw [← pinv_D hI hq]
  exact pmul_z (fun j => h j (Nat.zero_le _)) i
theorem pinv_0 {a b : Nat → Int} {low k : Nat} (h : ∀ i, k + low ≤ i → a i = 0) : pinv a b low k a (fun _ => 0) :=
  ⟨h, fun _ _ => rfl, fun _ _ => rfl, fun _ => ⟨by show (-100000000 : Int) ≤ 0; decide, by show (0 : Int) ≤ 100000000; decide⟩, fun i => by rw [pmul_z (fun _ => rfl)]; omega⟩
/-- the machine's quotient of an exact division -/
theorem zq_exact {x y : Int64} {q : Int} (h : x.toInt.natAbs < 2 ^ 62) (hy : y.toInt ≠ 0) (e : x.toInt = q * y.toInt) : (x / y).toInt = q := by
  rw [zx_div h, e, Int.mul_tdiv_cancel _ hy]
