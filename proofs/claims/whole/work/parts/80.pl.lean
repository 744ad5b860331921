/-! Polynomials of whole coefficients, and their values. -/
abbrev Pl : Type := {c : Nat → Int // ∃ n, ∀ i, n ≤ i → c i = 0}
def dl (n : Nat) (a : Pl) : Prop := ∀ i, n ≤ i → a.1 i = 0
theorem pl_ext {a b : Pl} (h : ∀ i, a.1 i = b.1 i) : a = b := Subtype.ext (funext h)
theorem dl_mono {n m : Nat} {a : Pl} (h : n ≤ m) (g : dl n a) : dl m a := fun i hi => g i (by omega)
theorem pmul_out {f g : Nat → Int} {n m k : Nat} (hf : ∀ i, n ≤ i → f i = 0) (hg : ∀ i, m ≤ i → g i = 0) (h : n + m ≤ k + 1) : pmul f g k = 0 := by
  unfold pmul
  refine psum_zero (fun i hi => ?_)
  rcases Nat.lt_or_ge i n with g1 | g1
  · rw [hg (k - i) (by omega), Int.mul_zero]
  · rw [hf i g1, Int.zero_mul]
def plA (a b : Pl) : Pl := ⟨fun i => a.1 i + b.1 i, by
  obtain ⟨n, h⟩ := a.2
  obtain ⟨m, g⟩ := b.2
  exact ⟨n + m, fun i hi => by show a.1 i + b.1 i = 0; rw [h i (by omega), g i (by omega)]; rfl⟩⟩
def plS (a b : Pl) : Pl := ⟨fun i => a.1 i - b.1 i, by
  obtain ⟨n, h⟩ := a.2
  obtain ⟨m, g⟩ := b.2
  exact ⟨n + m, fun i hi => by show a.1 i - b.1 i = 0; rw [h i (by omega), g i (by omega)]; rfl⟩⟩
def plK (c : Int) (a : Pl) : Pl := ⟨fun i => c * a.1 i, by
  obtain ⟨n, h⟩ := a.2
  exact ⟨n, fun i hi => by show c * a.1 i = 0; rw [h i hi, Int.mul_zero]⟩⟩
def plM (a b : Pl) : Pl := ⟨pmul a.1 b.1, by
  obtain ⟨n, h⟩ := a.2
  obtain ⟨m, g⟩ := b.2
  exact ⟨n + m, fun i hi => pmul_out h g (by omega)⟩⟩
def plX (c : Int) (n : Nat) : Pl := ⟨pone c n, n + 1, fun i hi => if_neg (by omega)⟩
theorem dl_A {n : Nat} {a b : Pl} (h : dl n a) (g : dl n b) : dl n (plA a b) := fun i hi => by
  show a.1 i + b.1 i = 0
  rw [h i hi, g i hi]; rfl
theorem dl_S {n : Nat} {a b : Pl} (h : dl n a) (g : dl n b) : dl n (plS a b) := fun i hi => by
  show a.1 i - b.1 i = 0
  rw [h i hi, g i hi]; rfl
theorem dl_K {n : Nat} {c : Int} {a : Pl} (h : dl n a) : dl n (plK c a) := fun i hi => by
  show c * a.1 i = 0
  rw [h i hi, Int.mul_zero]
theorem dl_M {n m k : Nat} {a b : Pl} (h : dl n a) (g : dl m b) (e : n + m ≤ k + 1) : dl k (plM a b) := fun i hi => pmul_out h g (by omega)
theorem dl_X {n k : Nat} {c : Int} (h : n < k) : dl k (plX c n) := fun i hi => if_neg (by omega)
theorem plM_top {n m : Nat} {a b : Pl} (h : dl (n + 1) a) (g : dl (m + 1) b) : (plM a b).1 (n + m) = a.1 n * b.1 m := pmul_top h g
theorem pl_top (a : Pl) : (∀ i, a.1 i = 0) ∨ ∃ n, a.1 n ≠ 0 ∧ dl (n + 1) a := by
  have key : ∀ n, dl n a → (∀ i, a.1 i = 0) ∨ ∃ n, a.1 n ≠ 0 ∧ dl (n + 1) a := by
    intro n
    induction n with
    | zero => intro h; exact Or.inl (fun i => h i (Nat.zero_le _))
    | succ n ih =>
      intro h
      by_cases e : a.1 n = 0
      · refine ih (fun i hi => ?_)
        by_cases e' : i = n
        · rw [e']; exact e
        · exact h i (by omega)
      · exact Or.inr ⟨n, e, h⟩
  obtain ⟨n, h⟩ := a.2
  exact key n h
/-! values -/
def pv (f : Nat → Int) (n : Nat) (x : Int) : Int := psum (fun i => f i * x ^ i) n
theorem pv_up {f : Nat → Int} {n : Nat} {x : Int} (h : ∀ i, n ≤ i → f i = 0) : ∀ {m}, n ≤ m → pv f m x = pv f n x
  | 0, hm => by rw [show n = 0 by omega]
  | m + 1, hm => by
    by_cases e : n = m + 1
    · rw [e]
    · show pv f m x + f m * x ^ m = _
      rw [h m (by omega), Int.zero_mul, Int.add_zero]
      exact pv_up h (by omega)
theorem pv_succ {f : Nat → Int} {n : Nat} {x : Int} : pv f (n + 1) x = f 0 + x * pv (fun i => f (i + 1)) n x := by
  unfold pv
  rw [psum_succ, ← psum_mul]
  congr 1
  · show f 0 * x ^ 0 = f 0
    rw [Int.pow_zero, Int.mul_one]
  · refine psum_congr (fun i _ => ?_)
    show f (i + 1) * x ^ (i + 1) = x * (f (i + 1) * x ^ i)
    rw [Int.pow_succ]
    grind
theorem pv_add {f g : Nat → Int} {n : Nat} {x : Int} : pv (fun i => f i + g i) n x = pv f n x + pv g n x := by
  unfold pv
  rw [← psum_add]
  exact psum_congr (fun i _ => Int.add_mul _ _ _)
theorem pv_sub {f g : Nat → Int} {n : Nat} {x : Int} : pv (fun i => f i - g i) n x = pv f n x - pv g n x := by
  unfold pv
  rw [← psum_sub]
  exact psum_congr (fun i _ => Int.sub_mul _ _ _)
theorem pv_mulc {f : Nat → Int} {n : Nat} {c x : Int} : pv (fun i => c * f i) n x = c * pv f n x := by
  unfold pv
  rw [← psum_mul]
  exact psum_congr (fun i _ => Int.mul_assoc _ _ _)
theorem pmul_succ {f g : Nat → Int} {k : Nat} : pmul f g (k + 1) = f 0 * g (k + 1) + pmul (fun i => f (i + 1)) g k := by
  unfold pmul
  rw [psum_succ]
  congr 1
  refine psum_congr (fun i _ => ?_)
  show f (i + 1) * g (k + 1 - (i + 1)) = f (i + 1) * g (k - i)
  rw [show k + 1 - (i + 1) = k - i by omega]
theorem pmul_0 {f g : Nat → Int} : pmul f g 0 = f 0 * g 0 := by
  show 0 + f 0 * g (0 - 0) = _
  rw [Int.zero_add]
theorem pv_mul {g : Nat → Int} {m : Nat} {x : Int} (hg : ∀ i, m ≤ i → g i = 0) : ∀ {n : Nat} {f : Nat → Int}, (∀ i, n ≤ i → f i = 0) → pv (pmul f g) (n + m) x = pv f n x * pv g m x
  | 0, f, hf => by
    show _ = 0 * _
    rw [Int.zero_mul]
    exact psum_zero (fun i _ => by rw [pmul_z (fun j => hf j (Nat.zero_le _)), Int.zero_mul])
  | n + 1, f, hf => by
    have ih := pv_mul (x := x) hg (n := n) (f := fun i => f (i + 1)) (fun i hi => hf (i + 1) (by omega))
    rw [show n + 1 + m = (n + m) + 1 by omega, pv_succ, pv_succ (f := f)]
    have e1 : pv (fun i => pmul f g (i + 1)) (n + m) x = f 0 * pv (fun i => g (i + 1)) (n + m) x + pv (pmul (fun i => f (i + 1)) g) (n + m) x := by
      rw [← pv_mulc, ← pv_add]
      exact psum_congr (fun i _ => by show pmul f g (i + 1) * x ^ i = _; rw [pmul_succ])
    have e2 : pv g m x = g 0 + x * pv (fun i => g (i + 1)) (n + m) x := by
      rw [← pv_succ]
      exact (pv_up hg (by omega)).symm
    rw [e1, ih, pmul_0, e2]
    grind
theorem pv_zero {U : Int → Prop} (hU : ∀ B : Int, ∃ x, B < x ∧ 0 < x ∧ U x) : ∀ {n : Nat} {f : Nat → Int}, (∀ i, n ≤ i → f i = 0) → (∀ x : Int, 0 < x → U x → pv f n x = 0) → ∀ i, f i = 0
  | 0, f, h, _, i => h i (Nat.zero_le _)
  | n + 1, f, h, hx, i => by
    have key : ∀ x : Int, 0 < x → U x → f 0 + x * pv (fun i => f (i + 1)) n x = 0 := fun x h1 h2 => by rw [← pv_succ]; exact hx x h1 h2
    have h0 : f 0 = 0 := by
      obtain ⟨x, hB, hx0, hxU⟩ := hU (f 0).natAbs
      have e := key x hx0 hxU
      generalize pv (fun i => f (i + 1)) n x = y at e
      by_cases hy : y = 0
      · rw [hy, Int.mul_zero] at e; omega
      · have e2 : f 0 = -(x * y) := by omega
        have e3 := congrArg Int.natAbs e2
        rw [Int.natAbs_neg, Int.natAbs_mul] at e3
        have e4 : 1 ≤ y.natAbs := by omega
        have := Nat.le_mul_of_pos_right x.natAbs e4
        omega
    have h1 : ∀ x : Int, 0 < x → U x → pv (fun i => f (i + 1)) n x = 0 := fun x hx1 hx2 => by
      have e := key x hx1 hx2
      rw [h0, Int.zero_add] at e
      rcases Int.mul_eq_zero.mp e with g | g
      · omega
      · exact g
    cases i with
    | zero => exact h0
    | succ i => exact pv_zero hU (f := fun i => f (i + 1)) (fun i hi => h (i + 1) (by omega)) h1 i
noncomputable def ev (a : Pl) (x : Int) : Int := pv a.1 a.2.choose x
theorem ev_of {a : Pl} {n : Nat} (h : dl n a) (x : Int) : ev a x = pv a.1 n x := by
  have h1 := pv_up (x := x) a.2.choose_spec (Nat.le_max_left a.2.choose n)
  have h2 := pv_up (x := x) h (Nat.le_max_right a.2.choose n)
  unfold ev
  rw [← h1, h2]
theorem ev_A {a b : Pl} {x : Int} : ev (plA a b) x = ev a x + ev b x := by
  obtain ⟨n, h⟩ := a.2
  obtain ⟨m, g⟩ := b.2
  have h' : dl (n + m) a := dl_mono (by omega) h
  have g' : dl (n + m) b := dl_mono (by omega) g
  rw [ev_of (dl_A h' g'), ev_of h', ev_of g']
  exact pv_add
theorem ev_S {a b : Pl} {x : Int} : ev (plS a b) x = ev a x - ev b x := by
  obtain ⟨n, h⟩ := a.2
  obtain ⟨m, g⟩ := b.2
  have h' : dl (n + m) a := dl_mono (by omega) h
  have g' : dl (n + m) b := dl_mono (by omega) g
  rw [ev_of (dl_S h' g'), ev_of h', ev_of g']
  exact pv_sub
theorem ev_K {a : Pl} {c x : Int} : ev (plK c a) x = c * ev a x := by
  obtain ⟨n, h⟩ := a.2
  rw [ev_of (dl_K (a := a) h), ev_of (a := a) h]
  exact pv_mulc
theorem ev_M {a b : Pl} {x : Int} : ev (plM a b) x = ev a x * ev b x := by
  obtain ⟨n, h⟩ := a.2
  obtain ⟨m, g⟩ := b.2
  rw [ev_of (n := n + m) (dl_M (a := a) (b := b) h g (by omega)), ev_of (a := a) h, ev_of (a := b) g]
  exact pv_mul g h
theorem ev_X {c x : Int} {n : Nat} : ev (plX c n) x = c * x ^ n := by
  rw [ev_of (n := n + 1) (dl_X (by omega))]
  unfold pv
  rw [psum_one (k := n) (by omega) (fun i _ hi => by show pone c n i * _ = 0; unfold pone; rw [if_neg hi, Int.zero_mul])]
  show pone c n n * _ = _
  unfold pone
  rw [if_pos rfl]
theorem ev_extU {U : Int → Prop} (hU : ∀ B : Int, ∃ x, B < x ∧ 0 < x ∧ U x) {a b : Pl} (h : ∀ x, U x → ev a x = ev b x) : a = b := by
  refine pl_ext (fun i => ?_)
  obtain ⟨n, g⟩ := (plS a b).2
  have := pv_zero hU (f := (plS a b).1) g (fun x _ hx => by
    rw [← ev_of (a := plS a b) g, ev_S, h x hx]; omega) i
  have e : a.1 i - b.1 i = 0 := this
  omega
theorem ev_ext {a b : Pl} (h : ∀ x, ev a x = ev b x) : a = b :=
  ev_extU (U := fun _ => True) (fun B => ⟨B.natAbs + 1, by omega, by omega, trivial⟩) (fun x _ => h x)
theorem ev_0 {a : Pl} (h : ∀ i, a.1 i = 0) (x : Int) : ev a x = 0 := by
  rw [ev_of (n := 0) (fun i _ => h i)]
  rfl
/-! alike modulo m -/
def cg (m : Int) (a b : Pl) : Prop := ∃ r : Pl, ∀ x, ev a x = ev b x + m * ev r x
theorem cg_of {m : Int} {a b : Pl} (h : ∀ i, m ∣ a.1 i - b.1 i) : cg m a b := by
  have hr : ∃ n, ∀ i, n ≤ i → (a.1 i - b.1 i) / m = 0 := by
    obtain ⟨n, g⟩ := (plS a b).2
    exact ⟨n, fun i hi => by show (a.1 i - b.1 i) / m = 0; rw [show a.1 i - b.1 i = 0 from g i hi, Int.zero_ediv]⟩
  refine ⟨⟨fun i => (a.1 i - b.1 i) / m, hr⟩, fun x => ?_⟩
  rw [← ev_K, ← ev_A]
  congr 1
  refine pl_ext (fun i => ?_)
  show a.1 i = b.1 i + m * ((a.1 i - b.1 i) / m)
  rw [Int.mul_ediv_cancel' (h i)]
  omega
theorem cg_co {m : Int} {a b : Pl} (h : cg m a b) (i : Nat) : m ∣ a.1 i - b.1 i := by
  obtain ⟨r, h⟩ := h
  have e : a = plA b (plK m r) := ev_ext (fun x => by rw [ev_A, ev_K]; exact h x)
  refine ⟨r.1 i, ?_⟩
  rw [e]
  show b.1 i + m * r.1 i - b.1 i = _
  omega
