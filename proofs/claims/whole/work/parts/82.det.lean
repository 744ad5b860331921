/-! Columns that stand twice; the bound; rows that do not depend on each other. -/
theorem psum_swap {F : Nat → Nat → Int} {m : Nat} : ∀ n, psum (fun i => psum (fun j => F i j) m) n = psum (fun j => psum (fun i => F i j) n) m
  | 0 => (psum_zero (fun _ _ => rfl)).symm
  | n + 1 => by
    show psum (fun i => psum (fun j => F i j) m) n + psum (fun j => F n j) m = _
    rw [psum_swap n, ← psum_add]
    rfl
theorem psum_neg {f : Nat → Int} (n : Nat) : psum (fun i => - f i) n = - psum f n := by
  have := psum_mul (f := f) (c := -1) n
  rw [show - psum f n = -1 * psum f n by omega, ← this]
  exact psum_congr (fun i _ => by omega)
theorem psum_tri {X Y : Nat → Nat → Int} {n : Nat} (h : ∀ i j, i ≤ j → j ≤ n → X i j = - Y (j + 1) i) : psum (fun i => psum (fun j => if i ≤ j then X i j else 0) (n + 1)) (n + 2) = - psum (fun i => psum (fun j => if j < i then Y i j else 0) (n + 1)) (n + 2) := by
  rw [psum_succ (f := fun i => psum (fun j => if j < i then Y i j else 0) (n + 1))]
  rw [psum_zero (f := fun j => if j < 0 then Y 0 j else 0) (fun j _ => if_neg (by omega)), Int.zero_add]
  show psum (fun i => psum (fun j => if i ≤ j then X i j else 0) (n + 1)) (n + 1) + psum (fun j => if n + 1 ≤ j then X (n + 1) j else 0) (n + 1) = _
  rw [psum_zero (f := fun j => if n + 1 ≤ j then X (n + 1) j else 0) (fun j hj => if_neg (by omega)), Int.add_zero]
  rw [psum_swap (n + 1), ← psum_neg]
  refine psum_congr (fun i hi => ?_)
  rw [← psum_neg]
  refine psum_congr (fun j hj => ?_)
  show (if j ≤ i then X j i else 0) = - (if j < i + 1 then Y (i + 1) j else 0)
  by_cases e : j ≤ i
  · rw [if_pos e, if_pos (by omega)]
    exact h j i e (by omega)
  · rw [if_neg e, if_neg (by omega)]
    rfl
theorem psum_split {F : Nat → Nat → Int} {n m : Nat} : psum (fun i => psum (fun j => F i j) m) n = psum (fun i => psum (fun j => if i ≤ j then F i j else 0) m) n + psum (fun i => psum (fun j => if j < i then F i j else 0) m) n := by
  rw [← psum_add]
  refine psum_congr (fun i _ => ?_)
  rw [← psum_add]
  refine psum_congr (fun j _ => ?_)
  by_cases e : i ≤ j
  · rw [if_pos e, if_neg (by omega)]; omega
  · rw [if_neg e, if_pos (by omega)]; omega
theorem sk_sk {i j : Nat} (h : i ≤ j) (k : Nat) : sk i (sk j k) = sk (j + 1) (sk i k) := by
  unfold sk
  split <;> split <;> split <;> (try split) <;> omega
theorem sk_ge {i j : Nat} (h : i ≤ j) : sk i j = j + 1 := if_neg (by omega)
theorem sk_lt {i j : Nat} (h : j < i) : sk i j = j := if_pos h
def dd (R : Nat → Nat → Int) (c d : Nat) (C : List Nat) (i j : Nat) : Int := sg i * R i c * (sg j * R (sk i j) d * det (fun k => R (sk i (sk j k))) C)
theorem det_cc (R : Nat → Nat → Int) (c d : Nat) (C : List Nat) : det R (c :: d :: C) = psum (fun i => psum (fun j => dd R c d C i j) (C.length + 1)) (C.length + 2) := by
  rw [det_cons]
  refine psum_congr (fun i _ => ?_)
  rw [det_cons, ← psum_mul]
  rfl
theorem det_col (R : Nat → Nat → Int) (c d : Nat) (C : List Nat) : det R (c :: d :: C) = - det R (d :: c :: C) := by
  rw [det_cc, det_cc, psum_split, psum_split (F := fun i j => dd R d c C i j)]
  have key : ∀ c d, ∀ i j, i ≤ j → j ≤ C.length → dd R c d C i j = - dd R d c C (j + 1) i := fun c d i j h _ => by
    unfold dd
    rw [sk_ge h, sk_lt (by omega : i < j + 1), sg_succ, show (fun k => R (sk i (sk j k))) = fun k => R (sk (j + 1) (sk i k)) from funext (fun k => by rw [sk_sk h])]
    grind
  rw [psum_tri (X := fun i j => dd R c d C i j) (Y := fun i j => dd R d c C i j) (key c d), psum_tri (X := fun i j => dd R d c C i j) (Y := fun i j => dd R c d C i j) (key d c)]
  omega
theorem det_front {c : Nat} {Z : List Nat} : ∀ {A : List Nat} (R : Nat → Nat → Int), det R (A ++ c :: Z) = sg A.length * det R (c :: (A ++ Z))
  | [], R => by
    show _ = sg 0 * _
    unfold sg
    rw [if_pos (by decide), Int.one_mul]
    rfl
  | d :: A, R => by
    show det R (d :: (A ++ c :: Z)) = sg (A.length + 1) * det R (c :: d :: (A ++ Z))
    rw [det_cons, det_col, det_cons, sg_succ]
    have hl : (A ++ c :: Z).length = (c :: (A ++ Z)).length := by
      rw [List.length_append, List.length_cons, List.length_cons, List.length_append]; omega
    rw [hl, show -sg A.length * -psum (fun i => sg i * R i d * det (fun k => R (sk i k)) (c :: (A ++ Z))) ((c :: (A ++ Z)).length + 1) = sg A.length * psum (fun i => sg i * R i d * det (fun k => R (sk i k)) (c :: (A ++ Z))) ((c :: (A ++ Z)).length + 1) by grind, ← psum_mul]
    refine psum_congr (fun i _ => ?_)
    rw [det_front (A := A)]
    grind
theorem det_twice (R : Nat → Nat → Int) {c : Nat} {C : List Nat} (h : c ∈ C) : det R (c :: C) = 0 := by
  obtain ⟨A, Z, e⟩ := List.append_of_mem h
  have h1 : det R ((c :: A) ++ c :: Z) = 0 := by
    rw [det_front]
    show sg (A.length + 1) * det R (c :: c :: (A ++ Z)) = 0
    have := det_col R c c (A ++ Z)
    rw [show det R (c :: c :: (A ++ Z)) = 0 by omega, Int.mul_zero]
  rw [e]
  exact h1
/-! the bound -/
def prd (f : Nat → Int) : Nat → Int
  | 0 => 1
  | n + 1 => prd f n * f n
theorem prd_congr {f g : Nat → Int} : ∀ {n : Nat}, (∀ i, i < n → f i = g i) → prd f n = prd g n
  | 0, _ => rfl
  | n + 1, h => by
    show prd f n * f n = prd g n * g n
    rw [prd_congr (fun i hi => h i (by omega)), h n (by omega)]
theorem prd_pos {f : Nat → Int} : ∀ {n : Nat}, (∀ i, 0 ≤ f i) → 0 ≤ prd f n
  | 0, _ => by show (0 : Int) ≤ 1; decide
  | n + 1, h => Int.mul_nonneg (prd_pos h) (h n)
theorem prd_le {f g : Nat → Int} (h0 : ∀ i, 0 ≤ f i) : ∀ {n : Nat}, (∀ i, i < n → f i ≤ g i) → prd f n ≤ prd g n
  | 0, _ => Int.le_refl _
  | n + 1, h => Int.mul_le_mul (prd_le h0 (fun i hi => h i (by omega))) (h n (by omega)) (h0 n) (Int.le_trans (prd_pos h0) (prd_le h0 (fun i hi => h i (by omega))))
theorem psum_le {f g : Nat → Int} : ∀ {n : Nat}, (∀ i, i < n → f i ≤ g i) → psum f n ≤ psum g n
  | 0, _ => Int.le_refl _
  | n + 1, h => Int.add_le_add (psum_le (fun i hi => h i (by omega))) (h n (by omega))
theorem psum_nn {f : Nat → Int} (h : ∀ i, 0 ≤ f i) : ∀ n, 0 ≤ psum f n
  | 0 => Int.le_refl _
  | n + 1 => Int.add_nonneg (psum_nn h n) (h n)
def ab (x : Int) : Int := x.natAbs
theorem ab_nn (x : Int) : 0 ≤ ab x := Int.natCast_nonneg _
theorem ab_mul (x y : Int) : ab (x * y) = ab x * ab y := by
  unfold ab
  rw [Int.natAbs_mul, Int.natCast_mul]
theorem ab_add (x y : Int) : ab (x + y) ≤ ab x + ab y := by unfold ab; omega
theorem ab_psum {f : Nat → Int} : ∀ n, ab (psum f n) ≤ psum (fun i => ab (f i)) n
  | 0 => Int.le_refl _
  | n + 1 => Int.le_trans (ab_add _ _) (Int.add_le_add_right (ab_psum n) _)
theorem ab_sg (i : Nat) : ab (sg i) = 1 := by unfold sg; split <;> rfl
theorem prd_sk {s : Nat → Int} {x : Nat → Int} (hs : ∀ i, 0 ≤ s i) (hx : ∀ i, 0 ≤ x i) : ∀ n, psum (fun i => x i * prd (fun k => s (sk i k)) n) (n + 1) ≤ prd (fun i => x i + s i) (n + 1)
  | 0 => by
    show 0 + x 0 * 1 ≤ 1 * (x 0 + s 0)
    have := hs 0
    omega
  | n + 1 => by
    show psum (fun i => x i * (prd (fun k => s (sk i k)) n * s (sk i n))) (n + 1) + x (n + 1) * prd (fun k => s (sk (n + 1) k)) (n + 1) ≤ prd (fun i => x i + s i) (n + 1) * (x (n + 1) + s (n + 1))
    have e1 : psum (fun i => x i * (prd (fun k => s (sk i k)) n * s (sk i n))) (n + 1) = s (n + 1) * psum (fun i => x i * prd (fun k => s (sk i k)) n) (n + 1) := by
      rw [← psum_mul]
      refine psum_congr (fun i hi => ?_)
      rw [sk_ge (by omega : i ≤ n)]
      grind
    have e2 : prd (fun k => s (sk (n + 1) k)) (n + 1) = prd s (n + 1) := prd_congr (fun i hi => by rw [sk_lt hi])
    have ih := Int.mul_le_mul_of_nonneg_left (prd_sk hs hx n) (hs (n + 1))
    have h3 := Int.mul_le_mul_of_nonneg_left (prd_le (g := fun i => x i + s i) hs (n := n + 1) (fun i _ => by have := hx i; omega)) (hx (n + 1))
    rw [e1, e2]
    have e4 : prd (fun i => x i + s i) (n + 1) * (x (n + 1) + s (n + 1)) = s (n + 1) * prd (fun i => x i + s i) (n + 1) + x (n + 1) * prd (fun i => x i + s i) (n + 1) := by grind
    rw [e4]
    exact Int.add_le_add ih h3
def lsum (f : Nat → Int) : List Nat → Int
  | [] => 0
  | c :: C => f c + lsum f C
theorem lsum_nn {f : Nat → Int} (h : ∀ i, 0 ≤ f i) : ∀ C, 0 ≤ lsum f C
  | [] => Int.le_refl _
  | c :: C => Int.add_nonneg (h c) (lsum_nn h C)
theorem det_le : ∀ {C : List Nat} {R : Nat → Nat → Int}, ab (det R C) ≤ prd (fun i => lsum (fun c => ab (R i c)) C) C.length
  | [], _ => by show ((Int.natAbs 1 : Nat) : Int) ≤ 1; decide
  | c :: C, R => by
    rw [det_cons]
    refine Int.le_trans (ab_psum _) (Int.le_trans (psum_le (g := fun i => ab (R i c) * prd (fun k => lsum (fun c => ab (R (sk i k) c)) C) C.length) (fun i _ => ?_)) (prd_sk (s := fun i => lsum (fun c => ab (R i c)) C) (x := fun i => ab (R i c)) (fun i => lsum_nn (fun _ => ab_nn _) _) (fun i => ab_nn _) C.length))
    show ab (sg i * R i c * det (fun k => R (sk i k)) C) ≤ _
    rw [ab_mul, ab_mul, ab_sg, Int.one_mul]
    exact Int.mul_le_mul_of_nonneg_left det_le (ab_nn _)
theorem lsum_le : ∀ {C : List Nat} {f : Nat → Int} {N : Nat}, (∀ i, 0 ≤ f i) → C.Nodup → (∀ c, c ∈ C → c < N) → lsum f C ≤ psum f N
  | [], f, N, h, _, _ => psum_nn h N
  | c :: C, f, N, h, hd, hN => by
    have hc : c < N := hN c List.mem_cons_self
    obtain ⟨h1, h2⟩ := List.nodup_cons.mp hd
    have e1 : psum f N = f c + psum (fun i => if i = c then 0 else f i) N := by
      have : psum f N = psum (fun i => (if i = c then f i else 0) + (if i = c then 0 else f i)) N := psum_congr (fun i _ => by split <;> omega)
      rw [this, psum_add, psum_one (k := c) hc (fun i _ e => if_neg e), if_pos rfl]
    have e2 : ∀ D : List Nat, (¬ c ∈ D) → lsum f D = lsum (fun i => if i = c then 0 else f i) D := by
      intro D
      induction D with
      | nil => intro _; rfl
      | cons d D ih =>
        intro hD
        show f d + lsum f D = (if d = c then 0 else f d) + lsum _ D
        rw [if_neg (fun e => hD (by rw [e]; exact List.mem_cons_self)), ih (fun e => hD (List.mem_cons_of_mem _ e))]
    show f c + lsum f C ≤ _
    rw [e1, e2 C h1]
    exact Int.add_le_add_left (lsum_le (fun i => by show (0 : Int) ≤ if i = c then 0 else f i; split; exact Int.le_refl _; exact h i) h2 (fun d hd => hN d (List.mem_cons_of_mem _ hd))) _
/-- n rows of N places that do not depend on each other -/
theorem det_ind {N : Nat} : ∀ {n : Nat} {R : Nat → Nat → Int}, (∀ l : Nat → Int, (∀ c, c < N → psum (fun i => l i * R i c) n = 0) → ∀ i, i < n → l i = 0) → ∃ C : List Nat, C.length = n ∧ C.Nodup ∧ (∀ c, c ∈ C → c < N) ∧ det R C ≠ 0
  | 0, R, _ => ⟨[], rfl, List.nodup_nil, fun c h => absurd h List.not_mem_nil, by show (1 : Int) ≠ 0; decide⟩
  | n + 1, R, h => by
    obtain ⟨C, h1, h2, h3, h4⟩ := det_ind (N := N) (n := n) (R := fun i => R (i + 1)) (fun l hl i hi => by
      have := h (fun i => if i = 0 then 0 else l (i - 1)) (fun c hc => by
        rw [psum_succ]
        show (if 0 = 0 then 0 else l (0 - 1)) * R 0 c + _ = 0
        rw [if_pos rfl, Int.zero_mul, Int.zero_add, ← hl c hc]
        refine psum_congr (fun i _ => ?_)
        show (if i + 1 = 0 then 0 else l (i + 1 - 1)) * R (i + 1) c = _
        rw [if_neg (by omega), show i + 1 - 1 = i by omega]) (i + 1) (by omega)
      have e : (if i + 1 = 0 then 0 else l (i + 1 - 1)) = 0 := this
      rw [if_neg (by omega), show i + 1 - 1 = i by omega] at e
      exact e)
    by_cases g : ∃ c, c < N ∧ det R (c :: C) ≠ 0
    · obtain ⟨c, hc, hd⟩ := g
      refine ⟨c :: C, by rw [List.length_cons, h1], List.nodup_cons.mpr ⟨fun e => hd (det_twice R e), h2⟩, fun d hd => ?_, hd⟩
      rcases List.mem_cons.mp hd with e | e
      · rw [e]; exact hc
      · exact h3 d e
    · exfalso
      refine h4 ?_
      have := h (fun i => sg i * det (fun k => R (sk i k)) C) (fun c hc => by
        have e : det R (c :: C) = 0 := Classical.byContradiction (fun e => g ⟨c, hc, e⟩)
        rw [det_cons, h1] at e
        rw [← e]
        exact psum_congr (fun i _ => by grind)) 0 (by omega)
      have e : sg 0 * det (fun k => R (sk 0 k)) C = 0 := this
      rw [show (fun k => R (sk 0 k)) = fun i => R (i + 1) from funext (fun k => by rw [sk_ge (by omega)])] at e
      rcases Int.mul_eq_zero.mp e with e | e
      · exact absurd e (by decide)
      · exact e
