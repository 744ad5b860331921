/-! Sums of amounts, and the polynomial whose roots are the squares. -/
def plN (a : Pl) : Pl := ⟨fun i => ab (a.1 i), by
  obtain ⟨n, h⟩ := a.2
  exact ⟨n, fun i hi => by show ab (a.1 i) = 0; rw [h i hi]; rfl⟩⟩
noncomputable def nm (a : Pl) : Int := ev (plN a) 1
theorem dl_N {n : Nat} {a : Pl} (h : dl n a) : dl n (plN a) := fun i hi => by
  show ab (a.1 i) = 0
  rw [h i hi]; rfl
theorem pv_1 {f : Nat → Int} {n : Nat} : pv f n 1 = psum f n :=
  psum_congr (fun i _ => by rw [Int.one_pow, Int.mul_one])
theorem nm_of {a : Pl} {n : Nat} (h : dl n a) : nm a = psum (fun i => ab (a.1 i)) n := by
  unfold nm
  rw [ev_of (dl_N h), pv_1]
  rfl
theorem nm_nn (a : Pl) : 0 ≤ nm a := by
  obtain ⟨n, h⟩ := a.2
  rw [nm_of (a := a) h]
  exact psum_nn (fun _ => ab_nn _) _
theorem nm_le {a : Pl} (n : Nat) : psum (fun i => ab (a.1 i)) n ≤ nm a := by
  obtain ⟨m, h⟩ := a.2
  rw [nm_of (n := n + m) (dl_mono (by omega) h), psum_app]
  have := psum_nn (f := fun i => ab (a.1 (n + i))) (fun _ => ab_nn _) m
  omega
theorem nm_one {a : Pl} (i : Nat) : ab (a.1 i) ≤ nm a := by
  refine Int.le_trans ?_ (nm_le (i + 1))
  show _ ≤ psum _ i + ab (a.1 i)
  have := psum_nn (f := fun i => ab (a.1 i)) (fun _ => ab_nn _) i
  omega
theorem nm_M (a b : Pl) : nm (plM a b) ≤ nm a * nm b := by
  obtain ⟨n, h⟩ := a.2
  obtain ⟨m, g⟩ := b.2
  have d : dl (n + m) (plM a b) := dl_M (a := a) (b := b) h g (by omega)
  rw [nm_of d]
  show _ ≤ ev (plN a) 1 * ev (plN b) 1
  rw [← ev_M, ev_of (n := n + m) (dl_M (dl_N (a := a) h) (dl_N (a := b) g) (by omega)), pv_1]
  refine psum_le (fun k _ => ?_)
  show ab (psum (fun i => a.1 i * b.1 (k - i)) (k + 1)) ≤ psum (fun i => ab (a.1 i) * ab (b.1 (k - i))) (k + 1)
  refine Int.le_trans (ab_psum _) (psum_le (fun i _ => ?_))
  rw [ab_mul]
  exact Int.le_refl _
/-- the value at the other sign -/
def plV (a : Pl) : Pl := ⟨fun i => sg i * a.1 i, by
  obtain ⟨n, h⟩ := a.2
  exact ⟨n, fun i hi => by show sg i * a.1 i = 0; rw [h i hi, Int.mul_zero]⟩⟩
theorem sg_pow (x : Int) : ∀ i, sg i * x ^ i = (-x) ^ i
  | 0 => by rw [Int.pow_zero, Int.pow_zero]; rfl
  | i + 1 => by
    rw [sg_succ, Int.pow_succ, Int.pow_succ, ← sg_pow x i]
    grind
theorem ev_V {a : Pl} {x : Int} : ev (plV a) x = ev a (-x) := by
  obtain ⟨n, h⟩ := a.2
  rw [ev_of (a := plV a) (n := n) (fun i hi => by show sg i * a.1 i = 0; rw [h i hi, Int.mul_zero]), ev_of (a := a) h]
  refine psum_congr (fun i _ => ?_)
  show sg i * a.1 i * x ^ i = a.1 i * (-x) ^ i
  rw [← sg_pow]
  grind
def plE (b : Pl) : Pl := ⟨fun i => b.1 (2 * i), by
  obtain ⟨n, h⟩ := b.2
  exact ⟨n, fun i hi => h (2 * i) (by omega)⟩⟩
def gr (a : Pl) : Pl := plE (plM a (plV a))
theorem pv_even {f : Nat → Int} {x : Int} (h : ∀ i, f (2 * i + 1) = 0) : ∀ n, pv f (2 * n) x = pv (fun i => f (2 * i)) n (x * x)
  | 0 => rfl
  | n + 1 => by
    rw [show 2 * (n + 1) = 2 * n + 1 + 1 by omega]
    show pv f (2 * n) x + f (2 * n) * x ^ (2 * n) + f (2 * n + 1) * x ^ (2 * n + 1) = pv (fun i => f (2 * i)) n (x * x) + f (2 * n) * (x * x) ^ n
    rw [h n, Int.zero_mul, Int.add_zero, pv_even h n, Int.pow_mul, show x ^ 2 = x * x by rw [Int.pow_succ, Int.pow_succ, Int.pow_zero, Int.one_mul]]
theorem gr_odd (a : Pl) (i : Nat) : (plM a (plV a)).1 (2 * i + 1) = 0 := by
  have e : plV (plM a (plV a)) = plM a (plV a) := ev_ext (fun x => by
    rw [ev_V, ev_M, ev_M, ev_V, ev_V, Int.neg_neg, Int.mul_comm])
  have e2 : sg (2 * i + 1) * (plM a (plV a)).1 (2 * i + 1) = (plM a (plV a)).1 (2 * i + 1) := congrArg (fun c : Pl => c.1 (2 * i + 1)) e
  have e3 : sg (2 * i + 1) = -1 := if_neg (by omega)
  rw [e3] at e2
  omega
theorem ev_gr {a : Pl} {x : Int} : ev (gr a) (x * x) = ev a x * ev a (-x) := by
  rw [← ev_V, ← ev_M]
  obtain ⟨n, h⟩ := (plM a (plV a)).2
  rw [ev_of (a := plM a (plV a)) (n := 2 * n) (dl_mono (by omega) h), ev_of (a := gr a) (n := n) (fun i hi => h (2 * i) (by omega))]
  exact (pv_even (gr_odd a) n).symm
theorem sq_un (B : Int) : ∃ x, B < x ∧ 0 < x ∧ ∃ y : Int, x = y * y :=
  ⟨(B.natAbs + 1 : Int) * (B.natAbs + 1), by
    have : ((B.natAbs : Int) + 1) * 1 ≤ ((B.natAbs : Int) + 1) * ((B.natAbs : Int) + 1) := Int.mul_le_mul_of_nonneg_left (by omega) (by omega)
    omega, Int.mul_pos (by omega) (by omega), _, rfl⟩
theorem gr_M (a b : Pl) : gr (plM a b) = plM (gr a) (gr b) := by
  refine ev_extU sq_un (fun x hx => ?_)
  obtain ⟨y, rfl⟩ := hx
  rw [ev_gr, ev_M, ev_M, ev_M, ev_gr, ev_gr]
  grind
theorem dl_gr {n : Nat} {a : Pl} (h : dl n a) : dl n (gr a) := fun i hi => by
  show pmul a.1 (plV a).1 (2 * i) = 0
  refine pmul_out (n := n) (m := n) h (fun j hj => ?_) (by omega)
  show sg j * a.1 j = 0
  rw [h j hj, Int.mul_zero]
theorem psum_even {f : Nat → Int} (h : ∀ i, 0 ≤ f i) : ∀ n, psum (fun i => f (2 * i)) n ≤ psum f (2 * n)
  | 0 => Int.le_refl _
  | n + 1 => by
    rw [show 2 * (n + 1) = 2 * n + 1 + 1 by omega]
    show psum (fun i => f (2 * i)) n + f (2 * n) ≤ psum f (2 * n) + f (2 * n) + f (2 * n + 1)
    have := psum_even h n
    have := h (2 * n + 1)
    omega
theorem nm_V (a : Pl) : nm (plV a) = nm a := by
  unfold nm
  congr 1
  refine pl_ext (fun i => ?_)
  show ab (sg i * a.1 i) = ab (a.1 i)
  rw [ab_mul, ab_sg, Int.one_mul]
theorem nm_gr (a : Pl) : nm (gr a) ≤ nm a * nm a := by
  obtain ⟨n, h⟩ := a.2
  rw [nm_of (dl_gr (a := a) h)]
  refine Int.le_trans (psum_even (f := fun i => ab ((plM a (plV a)).1 i)) (fun _ => ab_nn _) n) (Int.le_trans (nm_le (a := plM a (plV a)) (2 * n)) ?_)
  have := nm_M a (plV a)
  rw [nm_V] at this
  exact this
theorem gr_top {n : Nat} {a : Pl} (h : dl (n + 1) a) : ab ((gr a).1 n) = ab (a.1 n) * ab (a.1 n) := by
  show ab ((plM a (plV a)).1 (2 * n)) = _
  rw [show 2 * n = n + n by omega, plM_top h (fun i hi => by show sg i * a.1 i = 0; rw [h i hi, Int.mul_zero])]
  show ab (a.1 n * (sg n * a.1 n)) = _
  rw [ab_mul, ab_mul, ab_sg, Int.one_mul]
theorem psum_out {f : Nat → Int} {k n : Nat} (h : k < n) : psum f n = f k + psum (fun i => if i = k then 0 else f i) n := by
  have : psum f n = psum (fun i => (if i = k then f i else 0) + (if i = k then 0 else f i)) n := psum_congr (fun i _ => by split <;> omega)
  rw [this, psum_add, psum_one (k := k) h (fun i _ e => if_neg e), if_pos rfl]
/-- weights v: where place i weighs most, the new place i weighs at least its square -/
theorem gr_w {a : Pl} {v : Nat → Int} {i : Nat} (hv : 0 < v i) (hn : ∀ j, 0 ≤ v j) (hm : ∀ j, ab (a.1 j) * v i ≤ ab (a.1 i) * v j) (hw : v i ≤ 2 * (v i * v i) - pmul v v (2 * i)) : ab (a.1 i) * ab (a.1 i) ≤ v i * ab ((gr a).1 i) := by
  have e1 : (gr a).1 i = psum (fun j => a.1 j * (sg (2 * i - j) * a.1 (2 * i - j))) (2 * i + 1) := rfl
  have e2 := psum_out (f := fun j => a.1 j * (sg (2 * i - j) * a.1 (2 * i - j))) (k := i) (n := 2 * i + 1) (by omega)
  have e3 := ab_psum (f := fun j => if j = i then 0 else a.1 j * (sg (2 * i - j) * a.1 (2 * i - j))) (2 * i + 1)
  have e4 : psum (fun j => ab (if j = i then 0 else a.1 j * (sg (2 * i - j) * a.1 (2 * i - j)))) (2 * i + 1) = psum (fun j => if j = i then 0 else ab (a.1 j) * ab (a.1 (2 * i - j))) (2 * i + 1) := psum_congr (fun j _ => by
    split
    · rfl
    · rw [ab_mul, ab_mul, ab_sg, Int.one_mul])
  have e5 := psum_out (f := fun j => ab (a.1 j) * ab (a.1 (2 * i - j))) (k := i) (n := 2 * i + 1) (by omega)
  have e6 : ab (a.1 i * (sg (2 * i - i) * a.1 (2 * i - i))) = ab (a.1 i) * ab (a.1 i) := by
    rw [ab_mul, ab_mul, ab_sg, Int.one_mul, show 2 * i - i = i by omega]
  have e7 : ab (a.1 i) * ab (a.1 (2 * i - i)) = ab (a.1 i) * ab (a.1 i) := by rw [show 2 * i - i = i by omega]
  -- the amount of the new place
  have h1 : 2 * (ab (a.1 i) * ab (a.1 i)) - psum (fun j => ab (a.1 j) * ab (a.1 (2 * i - j))) (2 * i + 1) ≤ ab ((gr a).1 i) := by
    have g : ab (a.1 i * (sg (2 * i - i) * a.1 (2 * i - i))) ≤ ab ((gr a).1 i) + ab (psum (fun j => if j = i then 0 else a.1 j * (sg (2 * i - j) * a.1 (2 * i - j))) (2 * i + 1)) := by
      rw [e1, e2]
      generalize a.1 i * (sg (2 * i - i) * a.1 (2 * i - i)) = x
      generalize psum (fun j => if j = i then 0 else a.1 j * (sg (2 * i - j) * a.1 (2 * i - j))) (2 * i + 1) = y
      unfold ab
      omega
    rw [e6] at g
    rw [e4] at e3
    rw [e5, e7]
    omega
  -- times v i squared
  have h2 : v i * v i * psum (fun j => ab (a.1 j) * ab (a.1 (2 * i - j))) (2 * i + 1) ≤ ab (a.1 i) * ab (a.1 i) * pmul v v (2 * i) := by
    unfold pmul
    rw [← psum_mul, ← psum_mul]
    refine psum_le (fun j _ => ?_)
    have g := Int.mul_le_mul (hm j) (hm (2 * i - j)) (Int.mul_nonneg (ab_nn _) (hn i)) (Int.mul_nonneg (ab_nn _) (hn j))
    have a1 : v i * v i * (ab (a.1 j) * ab (a.1 (2 * i - j))) = ab (a.1 j) * v i * (ab (a.1 (2 * i - j)) * v i) := by grind
    have a2 : ab (a.1 i) * ab (a.1 i) * (v j * v (2 * i - j)) = ab (a.1 i) * v j * (ab (a.1 i) * v (2 * i - j)) := by grind
    rw [a1, a2]
    exact g
  have h3 := Int.mul_le_mul_of_nonneg_left h1 (Int.mul_nonneg (hn i) (hn i))
  have h4 := Int.mul_le_mul_of_nonneg_left hw (Int.mul_nonneg (ab_nn (a.1 i)) (ab_nn (a.1 i)))
  refine Int.le_of_mul_le_mul_left (a := v i) ?_ hv
  have a3 : v i * (ab (a.1 i) * ab (a.1 i)) = ab (a.1 i) * ab (a.1 i) * v i := by grind
  have a4 : v i * (v i * ab ((gr a).1 i)) = v i * v i * ab ((gr a).1 i) := by grind
  rw [a3, a4]
  have a5 : v i * v i * (2 * (ab (a.1 i) * ab (a.1 i)) - psum (fun j => ab (a.1 j) * ab (a.1 (2 * i - j))) (2 * i + 1)) = 2 * (ab (a.1 i) * ab (a.1 i) * (v i * v i)) - v i * v i * psum (fun j => ab (a.1 j) * ab (a.1 (2 * i - j))) (2 * i + 1) := by grind
  have a6 : ab (a.1 i) * ab (a.1 i) * (2 * (v i * v i) - pmul v v (2 * i)) = 2 * (ab (a.1 i) * ab (a.1 i) * (v i * v i)) - ab (a.1 i) * ab (a.1 i) * pmul v v (2 * i) := by grind
  rw [a5] at h3
  rw [a6] at h4
  omega
