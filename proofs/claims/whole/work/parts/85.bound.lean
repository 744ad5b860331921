/-! A rough bound of the places by the values at few points, and then the bound for divisors. -/
def plD (a : Pl) : Pl := ⟨fun i => a.1 (i + 1), by
  obtain ⟨n, h⟩ := a.2
  exact ⟨n, fun i hi => h (i + 1) (by omega)⟩⟩
def plU (a : Pl) : Pl := ⟨fun i => if i = 0 then 0 else a.1 (i - 1), by
  obtain ⟨n, h⟩ := a.2
  exact ⟨n + 1, fun i hi => by show (if i = 0 then 0 else a.1 (i - 1)) = 0; rw [if_neg (by omega)]; exact h (i - 1) (by omega)⟩⟩
theorem dl_D {n : Nat} {a : Pl} (h : dl (n + 1) a) : dl n (plD a) := fun i hi => h (i + 1) (by omega)
theorem dl_U {n : Nat} {a : Pl} (h : dl n a) : dl (n + 1) (plU a) := fun i hi => by
  show (if i = 0 then 0 else a.1 (i - 1)) = 0
  rw [if_neg (by omega)]
  exact h (i - 1) (by omega)
theorem ev_D (a : Pl) (x : Int) : ev a x = a.1 0 + x * ev (plD a) x := by
  obtain ⟨n, h⟩ := a.2
  rw [ev_of (a := a) (n := n + 1) (dl_mono (by omega) h), ev_of (a := plD a) (n := n) (dl_D (dl_mono (by omega) h)), pv_succ]
  rfl
theorem ev_U (a : Pl) (x : Int) : ev (plU a) x = x * ev a x := by
  rw [ev_D (plU a) x]
  have : plD (plU a) = a := pl_ext (fun i => by
    show (if i + 1 = 0 then 0 else a.1 (i + 1 - 1)) = a.1 i
    rw [if_neg (by omega), show i + 1 - 1 = i by omega])
  rw [this]
  show (if 0 = 0 then 0 else a.1 (0 - 1)) + _ = _
  rw [if_pos rfl, Int.zero_add]
theorem synth {y : Int} : ∀ {n : Nat} {a : Pl}, dl (n + 1) a → ∃ q : Pl, dl n q ∧ ∀ x, ev a x = ev a y + (x - y) * ev q x
  | 0, a, h => ⟨plX 0 0, fun i _ => by show (if i = 0 then (0 : Int) else 0) = 0; split <;> rfl, fun x => by
      rw [ev_X, ev_of h, ev_of h]
      show pv a.1 1 x = pv a.1 1 y + (x - y) * (0 * x ^ 0)
      rw [pv_succ, pv_succ]
      show a.1 0 + x * 0 = a.1 0 + y * 0 + _
      rw [Int.zero_mul, Int.mul_zero, Int.mul_zero, Int.mul_zero]
      omega⟩
  | n + 1, a, h => by
    obtain ⟨q, h1, h2⟩ := synth (y := y) (dl_D h)
    refine ⟨plA (plX (ev (plD a) y) 0) (plU q), dl_A (dl_X (by omega)) (dl_U h1), fun x => ?_⟩
    rw [ev_A, ev_X, ev_U, ev_D a x, ev_D a y, h2 x, Int.pow_zero]
    grind
def kc : Nat → Int
  | 0 => 0
  | n + 1 => 1 + 16 * kc n
theorem kc_nn : ∀ n, 0 ≤ kc n
  | 0 => Int.le_refl _
  | n + 1 => by show 0 ≤ 1 + 16 * kc n; have := kc_nn n; omega
theorem cr : ∀ {d : Nat} {a : Pl} {X : List Int}, dl d a → d ≤ X.length → X.Nodup → (∀ x, x ∈ X → ab x ≤ 7) → ∀ {B : Int}, 0 ≤ B → (∀ x, x ∈ X → ab (ev a x) ≤ B) → ∀ i, ab (a.1 i) ≤ kc d * B
  | 0, a, X, h, _, _, _, B, hB, _, i => by
    rw [h i (Nat.zero_le _)]
    show (0 : Int) ≤ 0 * B
    rw [Int.zero_mul]
    exact Int.le_refl _
  | d + 1, a, [], h, hl, _, _, _, _, _, _ => absurd hl (by show ¬ (d + 1 ≤ 0); omega)
  | d + 1, a, y :: X, h, hl, hd, h7, B, hB, hv, i => by
    obtain ⟨q, h1, h2⟩ := synth (y := y) h
    obtain ⟨d1, d2⟩ := List.nodup_cons.mp hd
    have ih := cr h1 (by rw [List.length_cons] at hl; omega) d2 (fun x hx => h7 x (List.mem_cons_of_mem _ hx)) (B := 2 * B) (by omega) (fun x hx => by
      have e := h2 x
      have b1 := hv x (List.mem_cons_of_mem _ hx)
      have b2 := hv y List.mem_cons_self
      have ne : x ≠ y := fun e => d1 (by rw [← e]; exact hx)
      have e3 : ab (x - y) * ab (ev q x) ≤ 2 * B := by
        rw [← ab_mul, show (x - y) * ev q x = ev a x - ev a y by omega]
        revert b1 b2
        unfold ab
        omega
      have e4 : 1 * ab (ev q x) ≤ ab (x - y) * ab (ev q x) := Int.mul_le_mul_of_nonneg_right (by unfold ab; omega) (ab_nn _)
      omega)
    have e : a = plA (plX (ev a y) 0) (plS (plU q) (plK y q)) := ev_ext (fun x => by
      rw [ev_A, ev_X, ev_S, ev_U, ev_K, h2 x, Int.pow_zero]
      grind)
    have b0 := hv y List.mem_cons_self
    have by7 := h7 y List.mem_cons_self
    have c1 : ab ((if i = 0 then 0 else q.1 (i - 1)) : Int) ≤ kc d * (2 * B) := by
      split
      · exact Int.mul_nonneg (kc_nn d) (by omega)
      · exact ih (i - 1)
    have c2 : ab (y * q.1 i) ≤ 7 * (kc d * (2 * B)) := by
      rw [ab_mul]
      exact Int.mul_le_mul by7 (ih i) (ab_nn _) (by omega)
    have c3 : ab (pone (ev a y) 0 i) ≤ B := by
      unfold pone
      split
      · exact b0
      · exact hB
    have e2 : a.1 i = pone (ev a y) 0 i + ((if i = 0 then 0 else q.1 (i - 1)) - y * q.1 i) := congrArg (fun c : Pl => c.1 i) e
    rw [e2]
    show _ ≤ (1 + 16 * kc d) * B
    rw [show (1 + 16 * kc d) * B = B + 8 * (kc d * (2 * B)) by grind]
    revert c1 c2 c3
    generalize pone (ev a y) 0 i = u
    generalize ((if i = 0 then 0 else q.1 (i - 1)) : Int) = w
    generalize y * q.1 i = z
    generalize kc d * (2 * B) = k
    unfold ab
    omega
theorem flen (l : List Int) (f : Int → Bool) : (l.filter f).length + (l.filter (fun x => ! f x)).length = l.length := by
  induction l with
  | nil => rfl
  | cons a l ih =>
    rw [List.filter_cons, List.filter_cons]
    by_cases c : f a = true
    · rw [if_pos c, c, List.length_cons, List.length_cons]
      show _ + 1 + (l.filter (fun x => ! f x)).length = _
      omega
    · have c' : f a = false := by cases h : f a; rfl; exact absurd h c
      rw [if_neg c, c', List.length_cons]
      show _ + ((a :: l.filter (fun x => ! f x)).length) = _
      rw [List.length_cons]
      omega
def pts : List Int := [0, 1, 2, 3, 4, 5, 6, 7]
theorem ev_le {a : Pl} {x : Int} (h : dl 8 a) (hx : ab x ≤ 7) : ab (ev a x) ≤ 823543 * nm a := by
  rw [ev_of h, nm_of h, ← psum_mul]
  refine Int.le_trans (ab_psum _) (psum_le (fun i hi => ?_))
  rw [ab_mul, Int.mul_comm]
  refine Int.mul_le_mul_of_nonneg_right ?_ (ab_nn _)
  have : ∀ j, j ≤ 7 → ab (x ^ j) ≤ 7 ^ j ∧ (7 : Int) ^ j ≤ 823543 := by
    intro j
    induction j with
    | zero => intro _; rw [Int.pow_zero]; exact ⟨by decide, by decide⟩
    | succ j ih =>
      intro hj
      refine ⟨?_, ?_⟩
      · rw [Int.pow_succ, ab_mul, Int.pow_succ]
        exact Int.mul_le_mul (ih (by omega)).1 hx (ab_nn _) (Int.pow_nonneg (by decide))
      · have : j + 1 = 1 ∨ j + 1 = 2 ∨ j + 1 = 3 ∨ j + 1 = 4 ∨ j + 1 = 5 ∨ j + 1 = 6 ∨ j + 1 = 7 := by omega
        rcases this with e | e | e | e | e | e | e <;> rw [e] <;> decide
  have := this i (by omega)
  omega
/-- each place of g times each place of h is at most so many times the sum of amounts of their product -/
theorem rough {d e : Nat} {g h : Pl} (hg : dl d g) (hh : dl e h) (hde : d + e ≤ 9) (hp : dl 8 (plM g h)) (i j : Nat) : ab (g.1 i) * ab (h.1 j) ≤ kc d * (kc e * (823543 * nm (plM g h))) := by
  by_cases h0 : h.1 j = 0
  · rw [h0]
    show ab (g.1 i) * 0 ≤ _
    rw [Int.mul_zero]
    exact Int.mul_nonneg (kc_nn d) (Int.mul_nonneg (kc_nn e) (Int.mul_nonneg (by decide) (nm_nn _)))
  have hpos : 0 < ab (h.1 j) := by unfold ab; omega
  have he : 0 < kc e := by
    cases e with
    | zero => exact absurd (hh j (Nat.zero_le _)) h0
    | succ e => show 0 < 1 + 16 * kc e; have := kc_nn e; omega
  have hn : pts.Nodup := by decide
  have h7 : ∀ x, x ∈ pts → ab x ≤ 7 := by decide
  let good : Int → Bool := fun x => decide (ab (h.1 j) ≤ kc e * ab (ev h x))
  have hl : (pts.filter good).length + (pts.filter (fun x => ! good x)).length = 8 := by
    have := flen pts good
    have l8 : pts.length = 8 := rfl
    omega
  by_cases hb : e ≤ (pts.filter (fun x => ! good x)).length
  · exfalso
    have := cr hh hb (hn.filter _) (fun x hx => h7 x (List.mem_filter.mp hx).1) (B := (ab (h.1 j) - 1) / kc e) (Int.ediv_nonneg (by omega) (by omega)) (fun x hx => by
      have g1 := (List.mem_filter.mp hx).2
      have g2 : ¬ (ab (h.1 j) ≤ kc e * ab (ev h x)) := by
        intro c
        have : good x = true := decide_eq_true c
        rw [this] at g1
        exact absurd g1 (by decide)
      rw [Int.le_ediv_iff_mul_le he, Int.mul_comm]
      omega) j
    have h2 := Int.mul_ediv_self_le (x := ab (h.1 j) - 1) (k := kc e) (by omega)
    omega
  · have hd : d ≤ (pts.filter good).length := by omega
    have := cr (dl_K (c := ab (h.1 j)) hg) hd (hn.filter _) (fun x hx => h7 x (List.mem_filter.mp hx).1) (B := kc e * (823543 * nm (plM g h))) (Int.mul_nonneg (kc_nn e) (Int.mul_nonneg (by decide) (nm_nn _))) (fun x hx => by
      have g1 : ab (h.1 j) ≤ kc e * ab (ev h x) := of_decide_eq_true (List.mem_filter.mp hx).2
      have g2 := ev_le hp (h7 x (List.mem_filter.mp hx).1)
      rw [ev_K, ab_mul, show ab (ab (h.1 j)) = ab (h.1 j) by unfold ab; omega]
      refine Int.le_trans (Int.mul_le_mul_of_nonneg_right g1 (ab_nn _)) ?_
      rw [Int.mul_assoc]
      refine Int.mul_le_mul_of_nonneg_left ?_ (kc_nn e)
      rw [← ab_mul, Int.mul_comm, ← ev_M]
      exact g2) i
    have e1 : ab ((plK (ab (h.1 j)) g).1 i) = ab (g.1 i) * ab (h.1 j) := by
      show ab (ab (h.1 j) * g.1 i) = _
      rw [ab_mul, show ab (ab (h.1 j)) = ab (h.1 j) by unfold ab; omega, Int.mul_comm]
    rw [e1] at this
    exact this
/-! powers get rid of the factor -/
theorem bern (B : Nat) : ∀ n, B ^ n * (B + n) ≤ B * (B + 1) ^ n
  | 0 => by rw [Nat.pow_zero, Nat.pow_zero]; omega
  | n + 1 => by
    have ih := Nat.mul_le_mul_right (B + 1) (bern B n)
    have e1 : B * (B + 1) ^ (n + 1) = B * (B + 1) ^ n * (B + 1) := by rw [Nat.pow_succ, Nat.mul_assoc]
    rw [e1]
    refine Nat.le_trans ?_ ih
    rw [Nat.pow_succ, Nat.mul_assoc, Nat.mul_assoc]
    refine Nat.mul_le_mul_left _ ?_
    have e2 : (B + n) * (B + 1) = B * (B + (n + 1)) + n := by grind
    omega
theorem pw {A B C : Nat} (h : ∀ k, A ^ (2 ^ k) ≤ C * B ^ (2 ^ k)) : A ≤ B := by
  refine Classical.byContradiction (fun g => ?_)
  have hA : B + 1 ≤ A := by omega
  have hk := h (C * B + 1)
  generalize hn : 2 ^ (C * B + 1) = n at hk
  have hn1 : C * B < n := by
    have := @Nat.lt_two_pow_self (C * B + 1)
    omega
  rcases Nat.eq_zero_or_pos B with e | e
  · subst e
    have h1 : 1 ≤ A ^ n := Nat.one_le_iff_ne_zero.mpr (by
      intro c
      have := Nat.pow_pos (n := n) (show 0 < A by omega)
      omega)
    rw [Nat.zero_pow (by omega), Nat.mul_zero] at hk
    omega
  · have h1 := Nat.le_trans (Nat.pow_le_pow_left hA n) hk
    have h2 := bern B n
    have h3 := Nat.mul_le_mul_left B h1
    have h4 := Nat.le_trans h2 h3
    have h5 : B * (C * B ^ n) = B ^ n * (C * B) := by grind
    rw [h5] at h4
    have h6 := Nat.le_of_mul_le_mul_left h4 (Nat.pow_pos e)
    omega
theorem amax {g : Nat → Int} {v : Nat → Int} {D : Nat} (hv : ∀ i, i < D → 0 < v i) : ∀ n, 0 < n → n ≤ D → ∃ i, i < n ∧ ∀ j, j < n → ab (g j) * v i ≤ ab (g i) * v j
  | 0, h, _ => absurd h (Nat.lt_irrefl _)
  | n + 1, _, hD => by
    rcases Nat.eq_zero_or_pos n with e | e
    · subst e
      refine ⟨0, by omega, fun j hj => ?_⟩
      rw [show j = 0 by omega]
      exact Int.le_refl _
    · obtain ⟨i, h1, h2⟩ := amax (g := g) hv n e (by omega)
      by_cases c : ab (g n) * v i ≤ ab (g i) * v n
      · refine ⟨i, by omega, fun j hj => ?_⟩
        by_cases e' : j = n
        · rw [e']; exact c
        · exact h2 j (by omega)
      · refine ⟨n, by omega, fun j hj => ?_⟩
        by_cases e' : j = n
        · rw [e']; exact Int.le_refl _
        · have h3 := h2 j (by omega)
          have vi := hv i (by omega)
          have vj := hv j (by omega)
          have vn := hv n (by omega)
          refine Int.le_of_mul_le_mul_left (a := v i) ?_ vi
          have a1 := Int.mul_le_mul_of_nonneg_right h3 (Int.le_of_lt vn)
          have a2 := Int.mul_le_mul_of_nonneg_right (show ab (g i) * v n ≤ ab (g n) * v i by omega) (Int.le_of_lt vj)
          have a3 : v i * (ab (g j) * v n) = ab (g j) * v i * v n := by grind
          have a4 : v i * (ab (g n) * v j) = ab (g n) * v i * v j := by grind
          have a5 : ab (g i) * v j * v n = ab (g i) * v n * v j := by grind
          omega
