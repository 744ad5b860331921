/-! The rows x^i a and x^j b: what a prime divides modulo which they depend on each other. -/
theorem psum_app {f : Nat → Int} {n : Nat} : ∀ m, psum f (n + m) = psum f n + psum (fun i => f (n + i)) m
  | 0 => by show psum f n = psum f n + 0; omega
  | m + 1 => by
    show psum f (n + m) + f (n + m) = psum f n + (psum (fun i => f (n + i)) m + f (n + m))
    rw [psum_app m]
    omega
theorem psum_up {f : Nat → Int} {n m : Nat} (h : ∀ i, n ≤ i → f i = 0) (hm : n ≤ m) : psum f m = psum f n := by
  obtain ⟨d, rfl⟩ := Nat.le.dest hm
  rw [psum_app, psum_zero (fun i _ => h (n + i) (by omega)), Int.add_zero]
theorem psum_shift {f : Nat → Int} {i : Nat} : ∀ N, psum (fun c => if i ≤ c then f (c - i) else 0) N = psum f (N - i)
  | 0 => by rw [Nat.zero_sub]; rfl
  | N + 1 => by
    show psum _ N + (if i ≤ N then f (N - i) else 0) = _
    rw [psum_shift N]
    by_cases h : i ≤ N
    · rw [if_pos h, show N + 1 - i = (N - i) + 1 by omega]
      rfl
    · rw [if_neg h, show N + 1 - i = 0 by omega, show N - i = 0 by omega]
      rfl
theorem pmul_row {u a : Nat → Int} {k : Nat} (hu : ∀ i, k ≤ i → u i = 0) (c : Nat) : psum (fun i => u i * (if i ≤ c then a (c - i) else 0)) k = pmul u a c := by
  have h1 : psum (fun i => u i * (if i ≤ c then a (c - i) else 0)) (k + (c + 1)) = psum (fun i => u i * (if i ≤ c then a (c - i) else 0)) k := psum_up (fun i hi => by rw [hu i hi, Int.zero_mul]) (by omega)
  have h2 : psum (fun i => u i * (if i ≤ c then a (c - i) else 0)) (k + (c + 1)) = psum (fun i => u i * (if i ≤ c then a (c - i) else 0)) (c + 1) := psum_up (fun i hi => by rw [if_neg (by omega), Int.mul_zero]) (by omega)
  rw [← h1, h2]
  exact psum_congr (fun i hi => by rw [if_pos (by omega)])
def rr (a b : Pl) (k1 : Nat) (i c : Nat) : Int := if i < k1 then (if i ≤ c then a.1 (c - i) else 0) else (if i - k1 ≤ c then b.1 (c - (i - k1)) else 0)
theorem rr_sum {a b : Pl} {k1 k2 : Nat} {u v : Pl} (hu : dl k1 u) (hv : dl k2 v) (c : Nat) : psum (fun i => (if i < k1 then u.1 i else v.1 (i - k1)) * rr a b k1 i c) (k1 + k2) = (plM u a).1 c + (plM v b).1 c := by
  rw [psum_app]
  congr 1
  · refine Eq.trans (psum_congr (fun i hi => ?_)) (pmul_row hu c)
    unfold rr
    rw [if_pos hi, if_pos hi]
  · refine Eq.trans (psum_congr (fun i hi => ?_)) (pmul_row hv c)
    unfold rr
    rw [if_neg (by omega), if_neg (by omega), show k1 + i - k1 = i by omega]
def cut (l : Nat → Int) (s k : Nat) : Pl := ⟨fun i => if i < k then l (s + i) else 0, k, fun i hi => if_neg (by omega)⟩
theorem cut_dl {l : Nat → Int} {s k : Nat} : dl k (cut l s k) := fun i hi => if_neg (by omega)
theorem rr_le {a b : Pl} {k1 i N : Nat} {SA SB : Int} (ha : ∀ n, psum (fun i => ab (a.1 i)) n ≤ SA) (hb : ∀ n, psum (fun i => ab (b.1 i)) n ≤ SB) : psum (fun c => ab (rr a b k1 i c)) N ≤ if i < k1 then SA else SB := by
  have key : ∀ (f : Nat → Int) (j : Nat), psum (fun c => ab (if j ≤ c then f (c - j) else 0)) N = psum (fun i => ab (f i)) (N - j) := fun f j => by
    rw [← psum_shift]
    refine psum_congr (fun c _ => ?_)
    by_cases e : j ≤ c
    · rw [if_pos e, if_pos e]
    · rw [if_neg e, if_neg e]; rfl
  unfold rr
  by_cases e : i < k1
  · rw [if_pos e]
    rw [psum_congr (g := fun c => ab (if i ≤ c then a.1 (c - i) else 0)) (fun c _ => by rw [if_pos e]), key]
    exact ha _
  · rw [if_neg e]
    rw [psum_congr (g := fun c => ab (if i - k1 ≤ c then b.1 (c - (i - k1)) else 0)) (fun c _ => by rw [if_neg e]), key]
    exact hb _
theorem prd_two {A B : Int} {k1 : Nat} : ∀ k2, prd (fun i => if i < k1 then A else B) (k1 + k2) = A ^ k1 * B ^ k2
  | 0 => by
    have : ∀ n, n ≤ k1 → prd (fun i => if i < k1 then A else B) n = A ^ n := by
      intro n
      induction n with
      | zero => intro _; rw [Int.pow_zero]; rfl
      | succ n ih =>
        intro h
        show prd _ n * (if n < k1 then A else B) = _
        rw [ih (by omega), if_pos (by omega), Int.pow_succ]
    rw [Nat.add_zero, this k1 (Nat.le_refl _), Int.pow_zero, Int.mul_one]
  | k2 + 1 => by
    show prd _ (k1 + k2) * (if k1 + k2 < k1 then A else B) = _
    rw [prd_two k2, if_neg (by omega), Int.pow_succ, Int.mul_assoc]
theorem res {a b : Pl} {k1 k2 na nb N : Nat} {SA SB : Int} (ha : ∀ n, psum (fun i => ab (a.1 i)) n ≤ SA) (hb : ∀ n, psum (fun i => ab (b.1 i)) n ≤ SB) (da : dl na a) (db : dl nb b) (hNa : na + k1 ≤ N + 1) (hNb : nb + k2 ≤ N + 1)
    (ind : ∀ u v : Pl, dl k1 u → dl k2 v → (∀ i, (plM u a).1 i + (plM v b).1 i = 0) → (∀ i, u.1 i = 0) ∧ ∀ i, v.1 i = 0) :
    ∃ D : Int, D ≠ 0 ∧ ab D ≤ SA ^ k1 * SB ^ k2 ∧ ∀ (p : Int) (u v : Pl), dl k1 u → dl k2 v → (∀ i, p ∣ (plM u a).1 i + (plM v b).1 i) → ∀ i, p ∣ u.1 i * D ∧ p ∣ v.1 i * D := by
  obtain ⟨C, h1, h2, h3, h4⟩ := det_ind (N := N) (n := k1 + k2) (R := rr a b k1) (fun l hl i hi => by
    have e : ∀ j, j < k1 + k2 → l j = if j < k1 then (cut l 0 k1).1 j else (cut l k1 k2).1 (j - k1) := fun j hj => by
      by_cases g : j < k1
      · rw [if_pos g]
        show l j = if j < k1 then l (0 + j) else 0
        rw [if_pos g, Nat.zero_add]
      · rw [if_neg g]
        show l j = if j - k1 < k2 then l (k1 + (j - k1)) else 0
        rw [if_pos (by omega), show k1 + (j - k1) = j by omega]
    have key : ∀ c, (plM (cut l 0 k1) a).1 c + (plM (cut l k1 k2) b).1 c = 0 := fun c => by
      by_cases hc : c < N
      · rw [← rr_sum cut_dl cut_dl]
        refine Eq.trans (psum_congr (fun j hj => ?_)) (hl c hc)
        rw [← e j hj]
      · rw [dl_M (k := N) cut_dl da (by omega) c (by omega), dl_M (k := N) cut_dl db (by omega) c (by omega)]
        rfl
    obtain ⟨g1, g2⟩ := ind _ _ cut_dl cut_dl key
    rw [e i hi]
    split
    · exact g1 _
    · exact g2 _)
  refine ⟨det (rr a b k1) C, h4, ?_, fun p u v hu hv hp => ?_⟩
  · refine Int.le_trans det_le ?_
    rw [h1, ← prd_two]
    exact prd_le (fun i => lsum_nn (fun _ => ab_nn _) _) (fun i _ => Int.le_trans (lsum_le (fun _ => ab_nn _) h2 h3) (rr_le ha hb))
  · have key : ∀ i, i < k1 + k2 → p ∣ (if i < k1 then u.1 i else v.1 (i - k1)) * det (rr a b k1) C := fun i hi =>
      det_dep (l := fun i => if i < k1 then u.1 i else v.1 (i - k1)) (by rw [h1]; exact hi) (fun c _ => by rw [h1, rr_sum hu hv]; exact hp c)
    intro i
    constructor
    · by_cases g : i < k1
      · have := key i (by omega)
        rw [if_pos g] at this
        exact this
      · rw [hu i (by omega), Int.zero_mul]
        exact ⟨0, (Int.mul_zero p).symm⟩
    · by_cases g : i < k2
      · have := key (k1 + i) (by omega)
        rw [if_neg (by omega), show k1 + i - k1 = i by omega] at this
        exact this
      · rw [hv i (by omega), Int.zero_mul]
        exact ⟨0, (Int.mul_zero p).symm⟩
