/-! The bound for divisors. -/
theorem sqp (x k : Nat) : x ^ (2 ^ (k + 1)) = (x * x) ^ (2 ^ k) := by
  rw [Nat.pow_succ, Nat.mul_comm, Nat.pow_mul, Nat.pow_two]
theorem ab_nat (x : Int) : ab x = (x.natAbs : Int) := rfl
theorem gbound {v : Nat → Int} {D e C : Nat} (hD : 0 < D) (hv : ∀ i, i < D → 0 < v i) (hv0 : ∀ i, 0 ≤ v i) (hw : ∀ i, i < D → v i ≤ 2 * (v i * v i) - pmul v v (2 * i)) (hDe : D + e ≤ 8) (hC : kc D * (kc (e + 1) * 823543) ≤ (C : Int)) : ∀ (k : Nat) (g h : Pl) (M : Nat), dl D g → dl (e + 1) h → nm (plM g h) ≤ (M : Int) → ∀ i, i < D → (∀ j, ab (g.1 j) * v i ≤ ab (g.1 i) * v j) → ((g.1 i).natAbs * (h.1 e).natAbs) ^ (2 ^ k) ≤ C * ((v i).natAbs * M) ^ (2 ^ k)
  | 0, g, h, M, hg, hh, hM, i, hi, hm => by
    rw [Nat.pow_zero, Nat.pow_one, Nat.pow_one]
    have h1 := rough hg hh (by omega) (dl_M hg hh (by omega)) i e
    have h2 : kc D * (kc (e + 1) * (823543 * nm (plM g h))) = (kc D * (kc (e + 1) * 823543)) * nm (plM g h) := by grind
    have h3 : (kc D * (kc (e + 1) * 823543)) * nm (plM g h) ≤ (C : Int) * (M : Int) := Int.mul_le_mul hC hM (nm_nn _) (by omega)
    have h4 : M ≤ (v i).natAbs * M := Nat.le_mul_of_pos_left M (by have := hv i hi; omega)
    have h5 : C * M ≤ C * ((v i).natAbs * M) := Nat.mul_le_mul_left C h4
    have h6 : (g.1 i).natAbs * (h.1 e).natAbs ≤ C * M := by
      refine Int.ofNat_le.mp ?_
      rw [Int.natCast_mul, Int.natCast_mul]
      rw [ab_nat, ab_nat] at h1
      omega
    omega
  | k + 1, g, h, M, hg, hh, hM, i, hi, hm => by
    obtain ⟨i1, g1, g2⟩ := amax (g := (gr g).1) hv D hD (Nat.le_refl _)
    have g3 : ∀ j, ab ((gr g).1 j) * v i1 ≤ ab ((gr g).1 i1) * v j := fun j => by
      by_cases c : j < D
      · exact g2 j c
      · rw [dl_gr hg j (by omega)]
        show 0 * v i1 ≤ _
        rw [Int.zero_mul]
        exact Int.mul_nonneg (ab_nn _) (hv0 j)
    have hM2 : nm (plM (gr g) (gr h)) ≤ ((M * M : Nat) : Int) := by
      rw [← gr_M, Int.natCast_mul]
      exact Int.le_trans (nm_gr _) (Int.mul_le_mul hM hM (nm_nn _) (by omega))
    have ih := gbound hD hv hv0 hw hDe hC k (gr g) (gr h) (M * M) (dl_gr hg) (dl_gr hh) hM2 i1 g1 g3
    have A1 := gr_w (hv i hi) hv0 hm (hw i hi)
    have A2 := g3 i
    have A4 : ((gr h).1 e).natAbs = (h.1 e).natAbs * (h.1 e).natAbs := by
      have := gr_top hh
      rw [ab_nat, ab_nat, ← Int.natCast_mul] at this
      exact Int.ofNat_inj.mp this
    rw [A4] at ih
    have V0 : v i = ((v i).natAbs : Int) := by have := hv0 i; omega
    have V1 : v i1 = ((v i1).natAbs : Int) := by have := hv0 i1; omega
    have Vp : 0 < (v i1).natAbs := by have := hv i1 g1; omega
    rw [ab_nat, ab_nat, V0, ← Int.natCast_mul, ← Int.natCast_mul] at A1
    rw [ab_nat, ab_nat, V0, V1, ← Int.natCast_mul, ← Int.natCast_mul] at A2
    have B1 := Int.ofNat_le.mp A1
    have B2 := Int.ofNat_le.mp A2
    rw [sqp, sqp]
    generalize (v i).natAbs = V at B1 B2 ⊢
    generalize (v i1).natAbs = W at B2 ih Vp
    generalize (g.1 i).natAbs = G at B1 ⊢
    generalize (h.1 e).natAbs = H at ih ⊢
    generalize ((gr g).1 i).natAbs = Gi at B1 B2
    generalize ((gr g).1 i1).natAbs = G1 at B2 ih
    generalize 2 ^ k = n at ih ⊢
    have c1 : G * H * (G * H) * W ≤ V * V * (G1 * (H * H)) := by
      have d1 := Nat.mul_le_mul_right (W * (H * H)) B1
      have d2 := Nat.mul_le_mul_right (V * (H * H)) B2
      have d3 : G * H * (G * H) * W = G * G * (W * (H * H)) := by grind
      have d4 : V * Gi * (W * (H * H)) = Gi * W * (V * (H * H)) := by grind
      have d5 : G1 * V * (V * (H * H)) = V * V * (G1 * (H * H)) := by grind
      omega
    have c2 := Nat.pow_le_pow_left c1 n
    rw [Nat.mul_pow, Nat.mul_pow (V * V)] at c2
    have c3 := Nat.mul_le_mul_left ((V * V) ^ n) ih
    have c4 := Nat.le_trans c2 c3
    have c5 : (V * V) ^ n * (C * (W * (M * M)) ^ n) = C * (V * M * (V * M)) ^ n * W ^ n := by
      rw [Nat.mul_pow W, show V * M * (V * M) = V * V * (M * M) by grind, Nat.mul_pow (V * V)]
      grind
    rw [c5] at c4
    exact Nat.le_of_mul_le_mul_right c4 (Nat.pow_pos Vp)
theorem gbnd {v : Nat → Int} {D e : Nat} {m : Int} (hD : 0 < D) (hv : ∀ i, i < D → 0 < v i) (hv0 : ∀ i, 0 ≤ v i) (hw : ∀ i, i < D → v i ≤ 2 * (v i * v i) - pmul v v (2 * i)) (hDe : D + e ≤ 8) {g h : Pl} (hg : dl D g) (hh : dl (e + 1) h) (hm : nm (plM g h) ≤ m) (i : Nat) (hi : i < D) : ab (g.1 i) * ab (h.1 e) ≤ v i * m := by
  have m0 : 0 ≤ m := Int.le_trans (nm_nn _) hm
  obtain ⟨k, h1, h2⟩ := amax (g := g.1) hv D hD (Nat.le_refl _)
  have h3 : ∀ j, ab (g.1 j) * v k ≤ ab (g.1 k) * v j := fun j => by
    by_cases c : j < D
    · exact h2 j c
    · rw [hg j (by omega)]
      show 0 * v k ≤ _
      rw [Int.zero_mul]
      exact Int.mul_nonneg (ab_nn _) (hv0 j)
  have key := pw (fun t => gbound (C := (kc D * (kc (e + 1) * 823543)).toNat) hD hv hv0 hw hDe (by have := Int.self_le_toNat (kc D * (kc (e + 1) * 823543)); omega) t g h m.toNat hg hh (by omega) k h1 h3)
  have key2 : ab (g.1 k) * ab (h.1 e) ≤ v k * m := by
    have := Int.ofNat_le.mpr key
    rw [Int.natCast_mul, Int.natCast_mul] at this
    have a1 : ((v k).natAbs : Int) = v k := by have := hv0 k; omega
    have a2 : (m.toNat : Int) = m := by omega
    rw [a1, a2] at this
    exact this
  have vk := hv k h1
  refine Int.le_of_mul_le_mul_left (a := v k) ?_ vk
  have a1 := Int.mul_le_mul_of_nonneg_right (h3 i) (ab_nn (h.1 e))
  have a2 := Int.mul_le_mul_of_nonneg_left key2 (hv0 i)
  have a3 : v k * (ab (g.1 i) * ab (h.1 e)) = ab (g.1 i) * v k * ab (h.1 e) := by grind
  have a4 : ab (g.1 k) * v i * ab (h.1 e) = v i * (ab (g.1 k) * ab (h.1 e)) := by grind
  have a5 : v k * (v i * m) = v i * (v k * m) := by grind
  omega
def v7 (i : Nat) : Int := if i = 0 ∨ i = 6 then 1 else if i = 1 ∨ i = 5 then 8 else if i = 2 ∨ i = 4 then 28 else if i = 3 then 43 else 0
def v6 (i : Nat) : Int := if i = 0 ∨ i = 5 then 1 else if i = 1 ∨ i = 4 then 6 else if i = 2 ∨ i = 3 then 14 else 0
theorem v7_le (i : Nat) : 0 ≤ v7 i ∧ v7 i ≤ 43 := by
  unfold v7
  split
  · decide
  · split
    · decide
    · split
      · decide
      · split <;> decide
theorem v6_le (i : Nat) : 0 ≤ v6 i ∧ v6 i ≤ 14 := by
  unfold v6
  split
  · decide
  · split
    · decide
    · split <;> decide
theorem v7_pos : ∀ i, i < 7 → 0 < v7 i := by decide
theorem v6_pos : ∀ i, i < 6 → 0 < v6 i := by decide
theorem v7_w : ∀ i, i < 7 → v7 i ≤ 2 * (v7 i * v7 i) - pmul v7 v7 (2 * i) := by decide
theorem v6_w : ∀ i, i < 6 → v6 i ≤ 2 * (v6 i * v6 i) - pmul v6 v6 (2 * i) := by decide
theorem bnd7 {D e : Nat} {m : Int} {g h : Pl} (hD : D ≤ 7) (hDe : D + e ≤ 8) (hg : dl D g) (hh : dl (e + 1) h) (hm : nm (plM g h) ≤ m) (i : Nat) : ab (g.1 i) * ab (h.1 e) ≤ 43 * m := by
  have m0 : 0 ≤ m := Int.le_trans (nm_nn _) hm
  by_cases hi : i < D
  · refine Int.le_trans (gbnd (by omega) (fun j hj => v7_pos j (by omega)) (fun j => (v7_le j).1) (fun j hj => v7_w j (by omega)) hDe hg hh hm i hi) ?_
    exact Int.mul_le_mul_of_nonneg_right (v7_le i).2 m0
  · rw [hg i (by omega)]
    show 0 * _ ≤ _
    rw [Int.zero_mul]
    omega
theorem bnd6 {D e : Nat} {m : Int} {g h : Pl} (hD : D ≤ 6) (hDe : D + e ≤ 8) (hg : dl D g) (hh : dl (e + 1) h) (hm : nm (plM g h) ≤ m) (i : Nat) : ab (g.1 i) * ab (h.1 e) ≤ 14 * m := by
  have m0 : 0 ≤ m := Int.le_trans (nm_nn _) hm
  by_cases hi : i < D
  · refine Int.le_trans (gbnd (by omega) (fun j hj => v6_pos j (by omega)) (fun j => (v6_le j).1) (fun j hj => v6_w j (by omega)) hDe hg hh hm i hi) ?_
    exact Int.mul_le_mul_of_nonneg_right (v6_le i).2 m0
  · rw [hg i (by omega)]
    show 0 * _ ≤ _
    rw [Int.zero_mul]
    omega
