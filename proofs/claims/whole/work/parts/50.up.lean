/-! UPPER: pure rows. Registers, degrees, loads. -/
theorem zx_add {x y : Int64} (h1 : -9223372036854775808 ≤ x.toInt + y.toInt) (h2 : x.toInt + y.toInt < 9223372036854775808) : (x + y).toInt = x.toInt + y.toInt := by
  rw [Int64.toInt_add]; exact Int.bmod_eq_of_le_mul_two (by omega) (by omega)
theorem zx_sub {x y : Int64} (h1 : -9223372036854775808 ≤ x.toInt - y.toInt) (h2 : x.toInt - y.toInt < 9223372036854775808) : (x - y).toInt = x.toInt - y.toInt := by
  rw [Int64.toInt_sub]; exact Int.bmod_eq_of_le_mul_two (by omega) (by omega)
theorem zx_mul {x y : Int64} (h1 : -9223372036854775808 ≤ x.toInt * y.toInt) (h2 : x.toInt * y.toInt < 9223372036854775808) : (x * y).toInt = x.toInt * y.toInt := by
  rw [Int64.toInt_mul]; exact Int.bmod_eq_of_le_mul_two (by omega) (by omega)
theorem zx_neg {x : Int64} (h : -9223372036854775808 < x.toInt) : (-x).toInt = -x.toInt := by
  have := x.toInt_lt
  rw [Int64.toInt_neg]; exact Int.bmod_eq_of_le_mul_two (by omega) (by omega)
theorem zy_add {x y : Int32} (h1 : -2147483648 ≤ x.toInt + y.toInt) (h2 : x.toInt + y.toInt < 2147483648) : (x + y).toInt = x.toInt + y.toInt := by
  rw [Int32.toInt_add]; exact Int.bmod_eq_of_le_mul_two (by omega) (by omega)
theorem zx_i {x : Int64} (h1 : -2147483648 ≤ x.toInt) (h2 : x.toInt < 2147483648) : x.toInt32.toInt = x.toInt := by
  rw [Int64.toInt_toInt32]; exact Int.bmod_eq_of_le_mul_two (by omega) (by omega)
theorem zx_ii {x : Int32} : x.toInt64.toInt32 = x := by
  rw [← Int32.toInt_inj, zx_i] <;> rw [Int32.toInt_toInt64]
  · exact x.le_toInt
  · exact x.toInt_lt
theorem zx_il {x : Int64} (h1 : -2147483648 ≤ x.toInt) (h2 : x.toInt < 2147483648) : x.toInt32.toInt64 = x := by
  rw [← Int64.toInt_inj, Int32.toInt_toInt64, zx_i h1 h2]
theorem zm1 (x : Int32) : x - 1 = x + (-1) := Int32.sub_eq_add_neg x 1
/-- one more than the degree of the first n places; 0 where all are 0 -/
def zdg (f : Nat → Int64) : Nat → Nat
  | 0 => 0
  | n + 1 => if f n = 0 then zdg f n else n + 1
theorem zdg_le (f : Nat → Int64) (n : Nat) : zdg f n ≤ n := by
  induction n with
  | zero => exact Nat.le_refl _
  | succ n ih =>
    unfold zdg
    split <;> omega
theorem zdg_congr {f g : Nat → Int64} {n : Nat} (h : ∀ i, i < n → f i = g i) : zdg f n = zdg g n := by
  induction n with
  | zero => rfl
  | succ n ih =>
    unfold zdg
    rw [h n (by omega), ih (fun i hi => h i (by omega))]
theorem zdg_up {f : Nat → Int64} {n m : Nat} (hnm : n ≤ m) (h : ∀ i, n ≤ i → i < m → f i = 0) : zdg f m = zdg f n := by
  induction m with
  | zero => rw [Nat.le_zero.mp hnm]
  | succ m ih =>
    rcases Nat.lt_or_ge m n with h1 | h1
    · rw [show n = m + 1 by omega]
    · have h2 : zdg f (m + 1) = zdg f m := by
        show (if f m = 0 then zdg f m else m + 1) = _
        rw [if_pos (h m h1 (by omega))]
      rw [h2]
      exact ih h1 (fun i a b => h i a (by omega))
theorem s_Ro_degreeOf {P : Int32 → Prop} {a0 : Nat} {M : zM} {n : Nat} (hz : zlong a0 = n) (h0 : 0 < n) (hn : n < 100) (k : P (nI (zdg (M a0) n) + (-1))) : w_Ro_degreeOf a0 M P := by
  refine ⟨by omega, fun x1 hx => ?_⟩
  have hx : x1 = nI n + (-1) := by
    rw [hx, hz, zm1, nI]
  have key : ∀ j, j ≤ n → zdg (M a0) n = zdg (M a0) j → ∃ f, L_Ro_degreeOf_5 P a0 M f (nI j + (-1)) := by
    intro j
    induction j with
    | zero =>
      intro _ hd
      refine ⟨1, ⟨fun _ => ?_, fun h => absurd (by decide) h⟩⟩
      rw [hd, show zdg (M a0) 0 = 0 from rfl, show nI 0 + (-1) = (-1 : Int32) by decide] at k
      exact k
    | succ j ih =>
      intro hj hd
      have hv : nI (j + 1) + (-1) = nI j := pk_m1 j
      by_cases hc : M a0 j = 0
      · obtain ⟨f, hf⟩ := ih (by omega) (by rw [hd]; show (if M a0 j = 0 then zdg (M a0) j else j + 1) = _; rw [if_pos hc])
        refine ⟨f + 1, ?_⟩
        rw [hv]
        refine ⟨fun h => absurd h (nI_pos (by omega)), fun _ => ⟨by rw [hz]; exact vp_in_nI (by omega) (by omega), fun _ => hf, fun h => absurd (by rw [nI_clamp (by omega)]; exact hc) h⟩⟩
      · refine ⟨1, ?_⟩
        rw [hv]
        refine ⟨fun h => absurd h (nI_pos (by omega)), fun _ => ⟨by rw [hz]; exact vp_in_nI (by omega) (by omega), fun h => absurd (by rw [nI_clamp (by omega)] at h; exact h) hc, fun _ => ?_⟩⟩
        rw [hd, show zdg (M a0) (j + 1) = j + 1 by show (if M a0 j = 0 then zdg (M a0) j else j + 1) = _; rw [if_neg hc], hv] at k
        exact k
  obtain ⟨f, hf⟩ := key n (Nat.le_refl _) rfl
  exact ⟨f, by rw [hx]; exact hf⟩
theorem s_Mo_degreeOf {P : Int32 → Prop} {a0 : Nat} {M : zM} (hz : zlong a0 = 16) (k : P (nI (zdg (M a0) 16) + (-1))) : w_Mo_degreeOf a0 M P := by
  have key : ∀ j, j ≤ 16 → zdg (M a0) 16 = zdg (M a0) j → ∃ f, L_Mo_degreeOf_3 P a0 M f (nI j + (-1)) := by
    intro j
    induction j with
    | zero =>
      intro _ hd
      refine ⟨1, ⟨fun _ => ?_, fun h => absurd (by decide) h⟩⟩
      rw [hd] at k
      exact k
    | succ j ih =>
      intro hj hd
      have hv : nI (j + 1) + (-1) = nI j := pk_m1 j
      by_cases hc : M a0 j = 0
      · obtain ⟨f, hf⟩ := ih (by omega) (by rw [hd]; show (if M a0 j = 0 then zdg (M a0) j else j + 1) = _; rw [if_pos hc])
        refine ⟨f + 1, ?_⟩
        rw [hv]
        refine ⟨fun h => absurd h (nI_pos (by omega)), fun _ => ⟨by rw [hz]; exact vp_in_nI (by omega) (by omega), fun h => absurd (by rw [nI_clamp (by omega)]; exact hc) h, fun _ => hf⟩⟩
      · refine ⟨1, ?_⟩
        rw [hv]
        refine ⟨fun h => absurd h (nI_pos (by omega)), fun _ => ⟨by rw [hz]; exact vp_in_nI (by omega) (by omega), fun _ => ?_, fun h => absurd (by rw [nI_clamp (by omega)] at h; exact h) hc⟩⟩
        rw [hd, show zdg (M a0) (j + 1) = j + 1 by show (if M a0 j = 0 then zdg (M a0) j else j + 1) = _; rw [if_neg hc], hv] at k
        exact k
  obtain ⟨f, hf⟩ := key 16 (Nat.le_refl _) rfl
  exact ⟨f, hf⟩
/-- the row that the model loads of its register r -/
def zld (N : zN) (r : Nat) : Nat → Int64 := fun i => if i < 8 then (N 100 (8 * r + i)).toInt64 else 0
theorem z_ix {r i : Nat} (hr : r < 4) (hi : i < 8) : (8 : Int32) * nI r + nI i = nI (8 * r + i) := by
  rw [show (8 : Int32) = nI 8 from rfl, pk_mul, nI_add]
theorem s_Mo_load {P : zM → Prop} {r a2 : Nat} {M : zM} {N : zN} (hr : r < 4) (hz : zlong a2 = 16) (k : ∀ M' : zM, (∀ a, a ≠ a2 → M' a = M a) → (∀ i, i < 16 → M' a2 i = zld N r i) → P M') : w_Mo_load (nI r) a2 M N P := by
  have key : ∀ d j (M1 : zM), j + d = 16 → (∀ a, a ≠ a2 → M1 a = M a) → (∀ i, i < j → M1 a2 i = zld N r i) → ∃ f, L_Mo_load_2 P (nI r) a2 N f (nI j) M1 := by
    intro d
    induction d with
    | zero =>
      intro j M1 hj h1 h2
      have : j = 16 := by omega
      subst this
      exact ⟨1, ⟨fun _ => k M1 h1 h2, fun h => absurd (by decide) h⟩⟩
    | succ d ih =>
      intro j M1 hj h1 h2
      have hfr : ∀ x, (∀ a, a ≠ a2 → zput M1 a2 j x a = M a) := fun x a ha => by rw [zput_ne ha]; exact h1 a ha
      have hst : ∀ x, x = zld N r j → ∀ i, i < j + 1 → zput M1 a2 j x a2 i = zld N r i := by
        intro x hx i hi
        by_cases e : i = j
        · subst e; rw [zput_eq]; exact hx
        · rw [zput_n2 e]; exact h2 i (by omega)
      have hcl : (nI j).toNatClampNeg = j := nI_clamp (by omega)
      by_cases h8 : 8 ≤ j
      · obtain ⟨f, hf⟩ := ih (j + 1) (zput M1 a2 j 0) (by omega) (hfr 0) (hst 0 (by unfold zld; rw [if_neg (by omega)]))
        refine ⟨f + 1, ⟨fun h => absurd h (nI_ge (by omega) (by omega) : ¬ nI 16 ≤ nI j), fun _ => ⟨fun _ => ⟨by rw [hz]; exact vp_in_nI (by omega) (by omega), fun M2 e => ?_⟩, fun h => absurd (nI_le h8 (by omega) : nI 8 ≤ nI j) h⟩⟩⟩
        rw [e, hcl, nI_1]
        exact hf
      · obtain ⟨f, hf⟩ := ih (j + 1) (zput M1 a2 j (N 100 (8 * r + j)).toInt64) (by omega) (hfr _) (hst _ (by unfold zld; rw [if_pos (by omega)]))
        have hix := z_ix (r := r) (i := j) hr (by omega)
        refine ⟨f + 1, ⟨fun h => absurd h (nI_ge (by omega) (by omega) : ¬ nI 16 ≤ nI j), fun _ => ⟨fun h => absurd h (nI_ge (by omega) (by omega) : ¬ nI 8 ≤ nI j), fun _ => ⟨?_, by rw [hz]; exact vp_in_nI (by omega) (by omega), fun M2 e => ?_⟩⟩⟩⟩
        · rw [hix]; exact vp_in_nI (by show 8 * r + j < 32; omega) (by decide)
        · rw [e, hcl, hix, nI_clamp (by omega), nI_1]
          exact hf
  obtain ⟨f, hf⟩ := key 16 0 M rfl (fun _ _ => rfl) (fun i hi => by omega)
  exact ⟨f, hf⟩
