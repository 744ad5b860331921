/-! The bound for divisors of degree 3 and less. -/
theorem absq {x y : Int} (h : ab x ≤ ab y) : x * x ≤ y * y := by
  have e : ∀ z : Int, z * z = ab z * ab z := fun z => by
    rw [← ab_mul]
    have := sq_nn z
    unfold ab
    omega
  rw [e x, e y]
  exact Int.mul_le_mul h h (ab_nn _) (ab_nn _)
theorem s2_pos {u : Pl} (h : ∃ i, u.1 i ≠ 0) : 1 ≤ s2 u := by
  obtain ⟨i, hi⟩ := h
  have h1 := s2_one u i
  have h2 : 0 < u.1 i * u.1 i := by
    rcases Int.lt_or_gt_of_ne hi with c | c
    · exact Int.mul_pos_of_neg_of_neg c c
    · exact Int.mul_pos c c
  omega
theorem q2_ne {a b c : Int} {k : Pl} (hb : b ≠ 0) (hk : ∃ i, k.1 i ≠ 0) : ∃ i, (q2 a b c k).1 i ≠ 0 := by
  refine Classical.byContradiction (fun n => hb ?_)
  have h0 : ∀ i, (q2 a b c k).1 i = 0 := fun i => Classical.byContradiction (fun e => n ⟨i, e⟩)
  have h1 := pl_can (G := k) (w := plA (plX a 2) (plA (plX b 1) (plX c 0))) hk (fun x => by
    have e := ev_0 h0 x
    rw [ev_q2] at e
    simp only [ev_A, ev_X]
    rw [Int.pow_zero, show x ^ 1 = x by rw [Int.pow_succ, Int.pow_zero, Int.one_mul], show x ^ 2 = x * x by rw [Int.pow_succ, Int.pow_succ, Int.pow_zero, Int.one_mul]]
    grind) 1
  have h2 : (if 1 = 2 then a else 0) + ((if 1 = 1 then b else 0) + (if 1 = 0 then c else 0)) = 0 := h1
  rw [if_neg (by decide), if_pos rfl, if_neg (by decide)] at h2
  omega
/-- the middle number of a quadratic whose middle weighs most -/
theorem quad_mid {a b c : Int} {k : Pl} {m : Nat} (hk : dl (m + 1) k) (hl : k.1 m ≠ 0) (h1 : 2 * ab a < ab b) (h2 : 2 * ab c < ab b) : 50 * ((b * k.1 m) * (b * k.1 m)) ≤ 208 * s2 (q2 a b c k) := by
  have hb : b ≠ 0 := fun e => by rw [e] at h1; unfold ab at h1; omega
  have hT := s2_pos (q2_ne (a := a) (c := c) hb ⟨m, hl⟩)
  have hS := s2_nn k
  generalize hT' : s2 (q2 a b c k) = T at hT ⊢
  -- the number of steps
  obtain ⟨N, hN⟩ : ∃ N : Nat, (N : Int) = 2550 * ((3 * ab a + ab b) * (3 * ab a + ab b) * s2 k) + 1 := ⟨(2550 * ((3 * ab a + ab b) * (3 * ab a + ab b) * s2 k) + 1).toNat, by
    have : 0 ≤ (3 * ab a + ab b) * (3 * ab a + ab b) * s2 k := Int.mul_nonneg (sq_nn _) hS
    omega⟩
  have hN0 : 0 ≤ (3 * ab a + ab b) * (3 * ab a + ab b) * s2 k := Int.mul_nonneg (sq_nn _) hS
  have N1 : (1 : Int) ≤ N := by omega
  have hKnn : 0 ≤ 3 * ab a + ab b := by have := ab_nn a; have := ab_nn b; omega
  obtain ⟨R, r1, r2, r3⟩ := ivt (f := fun R => a * R * R + b * N * R + c * N * N) (N := N) (L := N * (3 * ab a + ab b)) (Int.mul_nonneg (by omega) hKnn) (fun R a1 a2 => by
    show ab (a * (R + 1) * (R + 1) + b * N * (R + 1) + c * N * N - (a * R * R + b * N * R + c * N * N)) ≤ _
    rw [show a * (R + 1) * (R + 1) + b * N * (R + 1) + c * N * N - (a * R * R + b * N * R + c * N * N) = a * (2 * R + 1) + b * N by grind]
    refine Int.le_trans (ab_add _ _) ?_
    rw [ab_mul, ab_mul]
    have e1 : ab (2 * R + 1) ≤ 3 * N := by unfold ab; omega
    have e2 : ab (N : Int) = N := by unfold ab; omega
    have e3 := Int.mul_le_mul_of_nonneg_left e1 (ab_nn a)
    rw [e2]
    have e4 : (N : Int) * (3 * ab a + ab b) = ab a * (3 * N) + ab b * N := by grind
    omega) (by
    show (a * -(N : Int) * -(N : Int) + b * N * -(N : Int) + c * N * N ≤ 0 ∧ 0 ≤ a * N * N + b * N * N + c * N * N) ∨ (0 ≤ a * -(N : Int) * -(N : Int) + b * N * -(N : Int) + c * N * N ∧ a * N * N + b * N * N + c * N * N ≤ 0)
    rw [show a * -(N : Int) * -(N : Int) + b * N * -(N : Int) + c * N * N = (a - b + c) * ((N : Int) * N) by grind, show a * N * N + b * N * N + c * N * N = (a + b + c) * ((N : Int) * N) by grind]
    have hNN : 0 ≤ (N : Int) * N := sq_nn _
    rcases Int.lt_or_gt_of_ne hb with c1 | c1
    · refine Or.inr ⟨Int.mul_nonneg (by unfold ab at h1 h2; omega) hNN, ?_⟩
      have := Int.mul_nonneg (show 0 ≤ -(a + b + c) by unfold ab at h1 h2; omega) hNN
      rw [Int.neg_mul] at this
      omega
    · refine Or.inl ⟨?_, Int.mul_nonneg (by unfold ab at h1 h2; omega) hNN⟩
      have := Int.mul_nonneg (show 0 ≤ -(a - b + c) by unfold ab at h1 h2; omega) hNN
      rw [Int.neg_mul] at this
      omega)
  have r3' : ab (a * R * R + b * N * R + c * N * N) ≤ N * (3 * ab a + ab b) := r3
  generalize hf : a * R * R + b * N * R + c * N * N = f at r3'
  -- the product with the root taken out
  have eF : q1 (N * a) (N * b + a * R) (q1 N (-R) k) = plS (plK ((N : Int) * N) (q2 a b c k)) (plK f k) := ev_ext (fun x => by
    rw [ev_q1, ev_q1, ev_S, ev_K, ev_K, ev_q2, ← hf]
    grind)
  have hap : 2550 * (f * f * s2 k) ≤ (N : Int) * N * ((N : Int) * N) * s2 (q2 a b c k) := by
    rw [hT']
    have f1 : f * f ≤ (N * (3 * ab a + ab b)) * (N * (3 * ab a + ab b)) := absq (by
      have : ab ((N : Int) * (3 * ab a + ab b)) = N * (3 * ab a + ab b) := by
        have := Int.mul_nonneg (show (0 : Int) ≤ N by omega) hKnn
        unfold ab at this ⊢
        omega
      rw [this]; exact r3')
    have f2 := Int.mul_le_mul_of_nonneg_right f1 hS
    have f3 : (N : Int) * (3 * ab a + ab b) * (N * (3 * ab a + ab b)) * s2 k = (N : Int) * N * ((3 * ab a + ab b) * (3 * ab a + ab b) * s2 k) := by grind
    rw [f3] at f2
    generalize (3 * ab a + ab b) * (3 * ab a + ab b) * s2 k = Y at hN hN0 f2
    have f4 : (N : Int) * N * (2550 * Y) ≤ (N : Int) * N * ((N : Int) * N) := Int.mul_le_mul_of_nonneg_left (by
      have : (N : Int) * 1 ≤ (N : Int) * N := Int.mul_le_mul_of_nonneg_left N1 (by omega)
      omega) (sq_nn _)
    have f5 : (N : Int) * N * ((N : Int) * N) * 1 ≤ (N : Int) * N * ((N : Int) * N) * T := Int.mul_le_mul_of_nonneg_left hT (Int.mul_nonneg (sq_nn _) (sq_nn _))
    have f6 : (N : Int) * N * (2550 * Y) = 2550 * ((N : Int) * N * Y) := by grind
    omega
  have h5 := s2_apx hap
  rw [← eF, hT'] at h5
  have k1 := q1_top (a := (N : Int)) (e := -R) hk
  have h6 := q1_lead (a := (N : Int) * a) (e := N * b + a * R) k1.2
  rw [k1.1] at h6
  -- the turned number
  have h7 : ab (N * b) ≤ ab (2 * (N * b + a * R)) := by
    have g1 : ab (N * b) = N * ab b := by rw [ab_mul]; congr 1
    have g2 : ab (a * R) ≤ N * ab a := by
      rw [ab_mul, Int.mul_comm]
      exact Int.mul_le_mul_of_nonneg_right (by unfold ab; omega) (ab_nn a)
    have g3 : 2 * ((N : Int) * ab a) ≤ N * ab b := by
      have := Int.mul_le_mul_of_nonneg_left (show 2 * ab a ≤ ab b by omega) (show (0 : Int) ≤ N by omega)
      have e : (N : Int) * (2 * ab a) = 2 * (N * ab a) := by grind
      omega
    revert g1 g2 g3
    generalize (N : Int) * b = u
    generalize a * R = w
    generalize (N : Int) * ab b = x
    generalize (N : Int) * ab a = y
    unfold ab
    omega
  have h8 := absq (x := (N : Int) * b * (N * k.1 m)) (y := 2 * (N * b + a * R) * (N * k.1 m)) (by
    rw [ab_mul ((N : Int) * b), ab_mul (2 * (N * b + a * R))]
    exact Int.mul_le_mul_of_nonneg_right h7 (ab_nn _))
  have e9 : 2 * ((N : Int) * b + a * R) * (N * k.1 m) * (2 * (N * b + a * R) * (N * k.1 m)) = 4 * ((N * b + a * R) * (N * k.1 m) * ((N * b + a * R) * (N * k.1 m))) := by grind
  rw [e9] at h8
  have e10 : (N : Int) * b * (N * k.1 m) * (N * b * (N * k.1 m)) = (N : Int) * N * ((N : Int) * N) * (b * k.1 m * (b * k.1 m)) := by grind
  rw [e10] at h8
  have hpos : 0 < (N : Int) * N * ((N : Int) * N) := Int.mul_pos (Int.mul_pos (by omega) (by omega)) (Int.mul_pos (by omega) (by omega))
  refine Int.le_of_mul_le_mul_left (a := (N : Int) * N * ((N : Int) * N)) ?_ hpos
  have e11 : (N : Int) * N * ((N : Int) * N) * (50 * (b * k.1 m * (b * k.1 m))) = 50 * ((N : Int) * N * ((N : Int) * N) * (b * k.1 m * (b * k.1 m))) := by grind
  have e12 : (N : Int) * N * ((N : Int) * N) * (208 * T) = 208 * ((N : Int) * N * ((N : Int) * N) * T) := by grind
  rw [e11, e12]
  omega
/-- a quadratic: 936 hundredths for the sums of its numbers -/
theorem quad_all {a b c s : Int} {k : Pl} {m : Nat} (hk : dl (m + 1) k) (hl : k.1 m ≠ 0) (hs : ab s ≤ ab a + ab b ∨ ab s ≤ ab b + ab c) : 100 * ((s * k.1 m) * (s * k.1 m)) ≤ 936 * s2 (q2 a b c k) := by
  obtain ⟨l1, l2⟩ := q2_lead (a := a) (b := b) (c := c) hk
  by_cases h : 2 * ab a < ab b ∧ 2 * ab c < ab b
  · have h1 := quad_mid hk hl h.1 h.2
    have h2 : ab (2 * s) ≤ ab (3 * b) := by
      obtain ⟨x, y⟩ := h
      rcases hs with z | z <;> (revert x y z; unfold ab; omega)
    have h3 := absq (x := 2 * s * k.1 m) (y := 3 * b * k.1 m) (by rw [ab_mul, ab_mul (3 * b)]; exact Int.mul_le_mul_of_nonneg_right h2 (ab_nn _))
    have e1 : 2 * s * k.1 m * (2 * s * k.1 m) = 4 * (s * k.1 m * (s * k.1 m)) := by grind
    have e2 : 3 * b * k.1 m * (3 * b * k.1 m) = 9 * (b * k.1 m * (b * k.1 m)) := by grind
    rw [e1, e2] at h3
    omega
  · have key : ∀ u : Int, ab b ≤ 2 * ab u → ab a ≤ ab u → ab c ≤ ab u → u * k.1 m * (u * k.1 m) ≤ s2 (q2 a b c k) → 100 * ((s * k.1 m) * (s * k.1 m)) ≤ 936 * s2 (q2 a b c k) := fun u x y z w => by
      have h2 : ab s ≤ ab (3 * u) := by
        rcases hs with v | v <;> (revert x y z v; unfold ab; omega)
      have h3 := absq (x := s * k.1 m) (y := 3 * u * k.1 m) (by rw [ab_mul, ab_mul (3 * u)]; exact Int.mul_le_mul_of_nonneg_right h2 (ab_nn _))
      have e2 : 3 * u * k.1 m * (3 * u * k.1 m) = 9 * (u * k.1 m * (u * k.1 m)) := by grind
      rw [e2] at h3
      have := s2_nn (q2 a b c k)
      omega
    rcases Int.le_total (ab a) (ab c) with c1 | c1
    · exact key c (by omega) c1 (Int.le_refl _) l2
    · exact key a (by omega) (Int.le_refl _) c1 l1
theorem cubic_s {a b c d : Int} {h : Pl} {m : Nat} (hh : dl (m + 1) h) (hl : h.1 m ≠ 0) (hT : 1 ≤ s2 (q3 a b c d h)) (hs : (-a + b - c + d ≤ 0 ∧ 0 ≤ a + b + c + d) ∨ (0 ≤ -a + b - c + d ∧ a + b + c + d ≤ 0)) : 4 * ((b * h.1 m) * (b * h.1 m)) ≤ 39 * s2 (q3 a b c d h) ∧ 4 * ((c * h.1 m) * (c * h.1 m)) ≤ 39 * s2 (q3 a b c d h) := by
  have hS := s2_nn h
  generalize hT' : s2 (q3 a b c d h) = T at hT ⊢
  have hKnn : 0 ≤ 7 * ab a + 3 * ab b + ab c := by have := ab_nn a; have := ab_nn b; have := ab_nn c; omega
  have hN0 : 0 ≤ (7 * ab a + 3 * ab b + ab c) * (7 * ab a + 3 * ab b + ab c) * s2 h := Int.mul_nonneg (sq_nn _) hS
  obtain ⟨N, hN⟩ : ∃ N : Nat, (N : Int) = 2550 * ((7 * ab a + 3 * ab b + ab c) * (7 * ab a + 3 * ab b + ab c) * s2 h) + 1 := ⟨(2550 * ((7 * ab a + 3 * ab b + ab c) * (7 * ab a + 3 * ab b + ab c) * s2 h) + 1).toNat, by omega⟩
  have N1 : (1 : Int) ≤ N := by omega
  have hNN : 0 ≤ (N : Int) * N := sq_nn _
  have hNb : (N : Int) ≤ (N : Int) * N := by
    have : (N : Int) * 1 ≤ (N : Int) * N := Int.mul_le_mul_of_nonneg_left N1 (by omega)
    omega
  obtain ⟨R, r1, r2, r3⟩ := ivt (f := fun R => a * R * R * R + b * N * R * R + c * N * N * R + d * N * N * N) (N := N) (L := (N : Int) * N * (7 * ab a + 3 * ab b + ab c)) (Int.mul_nonneg hNN hKnn) (fun R a1 a2 => by
    show ab (a * (R + 1) * (R + 1) * (R + 1) + b * N * (R + 1) * (R + 1) + c * N * N * (R + 1) + d * N * N * N - (a * R * R * R + b * N * R * R + c * N * N * R + d * N * N * N)) ≤ _
    rw [show a * (R + 1) * (R + 1) * (R + 1) + b * N * (R + 1) * (R + 1) + c * N * N * (R + 1) + d * N * N * N - (a * R * R * R + b * N * R * R + c * N * N * R + d * N * N * N) = a * (3 * (R * R) + 3 * R + 1) + (b * (N * (2 * R + 1)) + c * ((N : Int) * N)) by grind]
    refine Int.le_trans (ab_add _ _) (Int.le_trans (Int.add_le_add_left (ab_add _ _) _) ?_)
    rw [ab_mul a, ab_mul b, ab_mul c]
    have hRR : R * R ≤ (N : Int) * N := absq (by unfold ab; omega)
    have hR0 := sq_nn R
    have e1 : ab (3 * (R * R) + 3 * R + 1) ≤ 7 * ((N : Int) * N) := by unfold ab; omega
    have e2 : ab ((N : Int) * (2 * R + 1)) ≤ 3 * ((N : Int) * N) := by
      rw [ab_mul]
      have g1 : ab (2 * R + 1) ≤ 3 * N := by unfold ab; omega
      have g2 : ab (N : Int) = N := by unfold ab; omega
      rw [g2]
      have := Int.mul_le_mul_of_nonneg_left g1 (show (0 : Int) ≤ N by omega)
      have e : (N : Int) * (3 * N) = 3 * ((N : Int) * N) := by grind
      omega
    have e3 : ab ((N : Int) * N) = (N : Int) * N := by unfold ab; omega
    have f1 := Int.mul_le_mul_of_nonneg_left e1 (ab_nn a)
    have f2 := Int.mul_le_mul_of_nonneg_left e2 (ab_nn b)
    rw [e3]
    have e4 : (N : Int) * N * (7 * ab a + 3 * ab b + ab c) = ab a * (7 * ((N : Int) * N)) + ab b * (3 * ((N : Int) * N)) + ab c * ((N : Int) * N) := by grind
    omega) (by
    show (a * -(N : Int) * -(N : Int) * -(N : Int) + b * N * -(N : Int) * -(N : Int) + c * N * N * -(N : Int) + d * N * N * N ≤ 0 ∧ 0 ≤ a * N * N * N + b * N * N * N + c * N * N * N + d * N * N * N) ∨ (0 ≤ a * -(N : Int) * -(N : Int) * -(N : Int) + b * N * -(N : Int) * -(N : Int) + c * N * N * -(N : Int) + d * N * N * N ∧ a * N * N * N + b * N * N * N + c * N * N * N + d * N * N * N ≤ 0)
    rw [show a * -(N : Int) * -(N : Int) * -(N : Int) + b * N * -(N : Int) * -(N : Int) + c * N * N * -(N : Int) + d * N * N * N = (-a + b - c + d) * ((N : Int) * N * N) by grind, show a * N * N * N + b * N * N * N + c * N * N * N + d * N * N * N = (a + b + c + d) * ((N : Int) * N * N) by grind]
    have h3 : 0 ≤ (N : Int) * N * N := Int.mul_nonneg hNN (by omega)
    rcases hs with ⟨x, y⟩ | ⟨x, y⟩
    · refine Or.inl ⟨?_, Int.mul_nonneg y h3⟩
      have := Int.mul_nonneg (show 0 ≤ -(-a + b - c + d) by omega) h3
      rw [Int.neg_mul] at this
      omega
    · refine Or.inr ⟨Int.mul_nonneg x h3, ?_⟩
      have := Int.mul_nonneg (show 0 ≤ -(a + b + c + d) by omega) h3
      rw [Int.neg_mul] at this
      omega)
  have r3' : ab (a * R * R * R + b * N * R * R + c * N * N * R + d * N * N * N) ≤ (N : Int) * N * (7 * ab a + 3 * ab b + ab c) := r3
  generalize hf : a * R * R * R + b * N * R * R + c * N * N * R + d * N * N * N = f at r3'
  have eF : q2 ((N : Int) * N * a) (N * (N * b + a * R)) ((N : Int) * N * c + N * b * R + a * R * R) (q1 N (-R) h) = plS (plK ((N : Int) * N * N) (q3 a b c d h)) (plK f h) := ev_ext (fun x => by
    rw [ev_q2, ev_q1, ev_S, ev_K, ev_K, ev_q3, ← hf]
    grind)
  have hap : 2550 * (f * f * s2 h) ≤ (N : Int) * N * N * ((N : Int) * N * N) * s2 (q3 a b c d h) := by
    rw [hT']
    have f1 : f * f ≤ ((N : Int) * N * (7 * ab a + 3 * ab b + ab c)) * ((N : Int) * N * (7 * ab a + 3 * ab b + ab c)) := absq (by
      have : ab ((N : Int) * N * (7 * ab a + 3 * ab b + ab c)) = (N : Int) * N * (7 * ab a + 3 * ab b + ab c) := by
        have := Int.mul_nonneg hNN hKnn
        unfold ab at this ⊢
        omega
      rw [this]; exact r3')
    have f2 := Int.mul_le_mul_of_nonneg_right f1 hS
    have f3 : (N : Int) * N * (7 * ab a + 3 * ab b + ab c) * ((N : Int) * N * (7 * ab a + 3 * ab b + ab c)) * s2 h = (N : Int) * N * ((N : Int) * N) * ((7 * ab a + 3 * ab b + ab c) * (7 * ab a + 3 * ab b + ab c) * s2 h) := by grind
    rw [f3] at f2
    generalize (7 * ab a + 3 * ab b + ab c) * (7 * ab a + 3 * ab b + ab c) * s2 h = Y at hN hN0 f2
    have f4 : (N : Int) * N * ((N : Int) * N) * (2550 * Y) ≤ (N : Int) * N * ((N : Int) * N) * ((N : Int) * N) := Int.mul_le_mul_of_nonneg_left (by omega) (Int.mul_nonneg hNN hNN)
    have f5 : (N : Int) * N * ((N : Int) * N) * ((N : Int) * N) * 1 ≤ (N : Int) * N * ((N : Int) * N) * ((N : Int) * N) * T := Int.mul_le_mul_of_nonneg_left hT (Int.mul_nonneg (Int.mul_nonneg hNN hNN) hNN)
    have f6 : (N : Int) * N * ((N : Int) * N) * (2550 * Y) = 2550 * ((N : Int) * N * ((N : Int) * N) * Y) := by grind
    have f7 : (N : Int) * N * N * ((N : Int) * N * N) * T = (N : Int) * N * ((N : Int) * N) * ((N : Int) * N) * T := by grind
    omega
  have h5 := s2_apx hap
  rw [← eF, hT'] at h5
  have k1 := q1_top (a := (N : Int)) (e := -R) hh
  have hl2 : (q1 (N : Int) (-R) h).1 (m + 1) ≠ 0 := by
    rw [k1.1]
    intro e
    rcases Int.mul_eq_zero.mp e with x | x
    · omega
    · exact hl x
  have gA : ab ((N : Int) * N * a) = (N : Int) * N * ab a := by rw [ab_mul]; congr 1
  have cut : ∀ x y z : Int, N * x = N * y - R * z → ab x ≤ ab y + ab z := fun x y z e => by
    have h1 : (N : Int) * ab x = ab (N * y - R * z) := by
      rw [← e, ab_mul]
      congr 1
    have h2 : ab (N * y - R * z) ≤ N * ab y + N * ab z := by
      have g1 : ab (N * y) = N * ab y := by rw [ab_mul]; congr 1
      have g2 : ab (R * z) ≤ N * ab z := by rw [ab_mul]; exact Int.mul_le_mul_of_nonneg_right (by unfold ab; omega) (ab_nn z)
      revert g1 g2
      generalize (N : Int) * y = u
      generalize R * z = w
      generalize (N : Int) * ab y = v
      generalize (N : Int) * ab z = t
      unfold ab
      omega
    refine Int.le_of_mul_le_mul_left (a := (N : Int)) ?_ (by omega)
    rw [h1, Int.mul_add]
    exact h2
  have hb := quad_all (a := (N : Int) * N * a) (b := N * (N * b + a * R)) (c := (N : Int) * N * c + N * b * R + a * R * R) (s := (N : Int) * N * b) k1.2 hl2 (Or.inl (by
    have := cut ((N : Int) * N * b) (N * (N * b + a * R)) ((N : Int) * N * a) (by grind)
    omega))
  have hc := quad_all (a := (N : Int) * N * a) (b := N * (N * b + a * R)) (c := (N : Int) * N * c + N * b * R + a * R * R) (s := (N : Int) * N * c) k1.2 hl2 (Or.inr (by
    have := cut ((N : Int) * N * c) ((N : Int) * N * c + N * b * R + a * R * R) (N * (N * b + a * R)) (by grind)
    omega))
  rw [k1.1] at hb hc
  have hpos : 0 < (N : Int) * N * N * ((N : Int) * N * N) := Int.mul_pos (Int.mul_pos (Int.mul_pos (by omega) (by omega)) (by omega)) (Int.mul_pos (Int.mul_pos (by omega) (by omega)) (by omega))
  have last : ∀ y : Int, 100 * ((N : Int) * N * y * (N * h.1 m) * ((N : Int) * N * y * (N * h.1 m))) ≤ 936 * s2 (q2 ((N : Int) * N * a) (N * (N * b + a * R)) ((N : Int) * N * c + N * b * R + a * R * R) (q1 N (-R) h)) → 4 * ((y * h.1 m) * (y * h.1 m)) ≤ 39 * T := fun y hy => by
    refine Int.le_of_mul_le_mul_left (a := (N : Int) * N * N * ((N : Int) * N * N)) ?_ hpos
    have e1 : (N : Int) * N * y * (N * h.1 m) * ((N : Int) * N * y * (N * h.1 m)) = (N : Int) * N * N * ((N : Int) * N * N) * (y * h.1 m * (y * h.1 m)) := by grind
    rw [e1] at hy
    have e2 : (N : Int) * N * N * ((N : Int) * N * N) * (4 * (y * h.1 m * (y * h.1 m))) = 4 * ((N : Int) * N * N * ((N : Int) * N * N) * (y * h.1 m * (y * h.1 m))) := by grind
    have e3 : (N : Int) * N * N * ((N : Int) * N * N) * (39 * T) = 39 * ((N : Int) * N * N * ((N : Int) * N * N) * T) := by grind
    have e4 : 0 ≤ (N : Int) * N * N * ((N : Int) * N * N) * T := Int.mul_nonneg (by omega) (by omega)
    rw [e2, e3]
    omega
  exact ⟨last b hb, last c hc⟩
theorem cubic {a b c d : Int} {h : Pl} {m : Nat} (hh : dl (m + 1) h) (hl : h.1 m ≠ 0) (hT : 1 ≤ s2 (q3 a b c d h)) : 4 * ((b * h.1 m) * (b * h.1 m)) ≤ 39 * s2 (q3 a b c d h) ∧ 4 * ((c * h.1 m) * (c * h.1 m)) ≤ 39 * s2 (q3 a b c d h) := by
  by_cases hs : (-a + b - c + d ≤ 0 ∧ 0 ≤ a + b + c + d) ∨ (0 ≤ -a + b - c + d ∧ a + b + c + d ≤ 0)
  · exact cubic_s hh hl hT hs
  · rw [s2_q3t] at hT ⊢
    have := cubic_s (a := d) (b := c) (c := b) (d := a) hh hl hT (by omega)
    exact ⟨this.2, this.1⟩
