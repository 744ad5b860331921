/-! Determinants, laid out along the first column; the columns are a list. -/
def sk (i k : Nat) : Nat := if k < i then k else k + 1
def sg (i : Nat) : Int := if i % 2 = 0 then 1 else -1
theorem sg_succ (i : Nat) : sg (i + 1) = - sg i := by
  unfold sg
  rcases Nat.mod_two_eq_zero_or_one i with h | h
  · rw [if_neg (by omega), if_pos h]
  · rw [if_pos (by omega), if_neg (by omega)]; rfl
def det : (Nat → Nat → Int) → List Nat → Int
  | _, [] => 1
  | R, c :: C => psum (fun i => sg i * R i c * det (fun k => R (sk i k)) C) (C.length + 1)
theorem det_cons (R : Nat → Nat → Int) (c : Nat) (C : List Nat) : det R (c :: C) = psum (fun i => sg i * R i c * det (fun k => R (sk i k)) C) (C.length + 1) := rfl
theorem sk_le {i k n : Nat} (hk : k < n) : sk i k < n + 1 := by unfold sk; split <;> omega
theorem det_congr : ∀ {C : List Nat} {R R' : Nat → Nat → Int}, (∀ i, i < C.length → ∀ c, c ∈ C → R i c = R' i c) → det R C = det R' C
  | [], _, _, _ => rfl
  | c :: C, R, R', h => by
    rw [det_cons, det_cons]
    refine psum_congr (fun i hi => ?_)
    rw [h i (by rw [List.length_cons]; exact hi) c List.mem_cons_self, det_congr (R := fun k => R (sk i k)) (R' := fun k => R' (sk i k)) (fun k hk d hd => h (sk i k) (by rw [List.length_cons]; exact sk_le hk) d (List.mem_cons_of_mem _ hd))]
def rset (R : Nat → Nat → Int) (k : Nat) (u : Nat → Int) : Nat → Nat → Int := fun i => if i = k then u else R i
theorem rset_eq {R : Nat → Nat → Int} {k : Nat} {u : Nat → Int} : rset R k u k = u := if_pos rfl
theorem rset_ne {R : Nat → Nat → Int} {k i : Nat} {u : Nat → Int} (h : i ≠ k) : rset R k u i = R i := if_neg h
theorem rset_sk {R : Nat → Nat → Int} {k : Nat} {u : Nat → Int} : (fun j => rset R k u (sk k j)) = fun j => R (sk k j) := by
  funext j
  exact rset_ne (by unfold sk; split <;> omega)
theorem rset_skn {R : Nat → Nat → Int} {k i : Nat} {u : Nat → Int} (h : i ≠ k) : (fun j => rset R k u (sk i j)) = rset (fun j => R (sk i j)) (if k < i then k else k - 1) u := by
  funext j
  show (if sk i j = k then u else R (sk i j)) = if j = (if k < i then k else k - 1) then u else R (sk i j)
  have e : (sk i j = k) ↔ (j = if k < i then k else k - 1) := by
    unfold sk
    split <;> split <;> omega
  by_cases c : sk i j = k
  · rw [if_pos c, if_pos (e.mp c)]
  · rw [if_neg c, if_neg (fun d => c (e.mpr d))]
theorem det_lin {s t : Int} {u v : Nat → Int} : ∀ {C : List Nat} {R : Nat → Nat → Int} {k : Nat}, k < C.length → det (rset R k (fun c => s * u c + t * v c)) C = s * det (rset R k u) C + t * det (rset R k v) C
  | [], _, _, h => absurd h (Nat.not_lt_zero _)
  | c :: C, R, k, h => by
    rw [det_cons, det_cons, det_cons, ← psum_mul, ← psum_mul, ← psum_add]
    refine psum_congr (fun i hi => ?_)
    by_cases e : i = k
    · subst e
      rw [rset_sk, rset_sk, rset_sk, rset_eq, rset_eq, rset_eq]
      grind
    · rw [rset_ne e, rset_ne e, rset_ne e, rset_skn e, rset_skn e, rset_skn e, det_lin (by rw [List.length_cons] at h; split <;> omega)]
      grind
/-- only the places k and k + 1 count -/
theorem psum_two {f : Nat → Int} {k : Nat} : ∀ {n : Nat}, k + 1 < n → (∀ i, i < n → i ≠ k → i ≠ k + 1 → f i = 0) → psum f n = f k + f (k + 1)
  | 0, h, _ => by omega
  | n + 1, h, g => by
    show psum f n + f n = _
    by_cases e : k + 1 = n
    · subst e
      show (psum f k + f k) + f (k + 1) = _
      rw [psum_zero (fun i hi => g i (by omega) (by omega) (by omega)), Int.zero_add]
    · rw [psum_two (k := k) (by omega) (fun i hi a b => g i (by omega) a b), g n (by omega) (by omega) (by omega), Int.add_zero]
theorem det_adj : ∀ {C : List Nat} {R : Nat → Nat → Int} {k : Nat}, k + 1 < C.length → R k = R (k + 1) → det R C = 0
  | [], _, _, h, _ => absurd h (Nat.not_lt_zero _)
  | c :: C, R, k, h, e => by
    rw [List.length_cons] at h
    rw [det_cons, psum_two (k := k) (by omega) (fun i hi a b => ?_)]
    · have e1 : (fun j => R (sk k j)) = fun j => R (sk (k + 1) j) := by
        funext j
        unfold sk
        by_cases a : j < k
        · rw [if_pos a, if_pos (by omega)]
        · rw [if_neg a]
          by_cases b : j < k + 1
          · rw [if_pos b, show j = k by omega, e]
          · rw [if_neg b]
      rw [e1, e, sg_succ]
      grind
    · have h0 : det (fun j => R (sk i j)) C = 0 := by
        rcases Nat.lt_or_ge i k with g | g
        · refine det_adj (k := k - 1) (by omega) ?_
          show R (sk i (k - 1)) = R (sk i (k - 1 + 1))
          unfold sk
          rw [if_neg (by omega), if_neg (by omega), show k - 1 + 1 = k by omega]
          exact e
        · refine det_adj (k := k) (by omega) ?_
          show R (sk i k) = R (sk i (k + 1))
          unfold sk
          rw [if_pos (by omega), if_pos (by omega)]
          exact e
      rw [h0, Int.mul_zero]
theorem rset_rset {R : Nat → Nat → Int} {k : Nat} {u v : Nat → Int} : rset (rset R k u) k v = rset R k v := by
  funext i
  unfold rset
  split <;> rfl
theorem rset_comm {R : Nat → Nat → Int} {k l : Nat} {u v : Nat → Int} (h : k ≠ l) : rset (rset R k u) l v = rset (rset R l v) k u := by
  funext i
  unfold rset
  by_cases a : i = l
  · rw [if_pos a, if_neg (by omega), if_pos a]
  · rw [if_neg a]
    by_cases b : i = k
    · rw [if_pos b, if_pos b]
    · rw [if_neg b, if_neg b, if_neg a]
theorem rset_self {R : Nat → Nat → Int} {k : Nat} : rset R k (R k) = R := by
  funext i
  unfold rset
  split
  · rename_i h; rw [h]
  · rfl
theorem det_sum {C : List Nat} {R : Nat → Nat → Int} {k : Nat} {u v : Nat → Int} (h : k < C.length) : det (rset R k (fun c => u c + v c)) C = det (rset R k u) C + det (rset R k v) C := by
  have := det_lin (s := 1) (t := 1) (u := u) (v := v) (R := R) h
  rw [Int.one_mul, Int.one_mul] at this
  rw [← this]
  congr 2
  funext c
  rw [Int.one_mul, Int.one_mul]
theorem det_sum' {C : List Nat} {R : Nat → Nat → Int} {k : Nat} {u v w : Nat → Int} (h : k + 1 < C.length) : det (rset (rset R k (fun c => u c + v c)) (k + 1) w) C = det (rset (rset R k u) (k + 1) w) C + det (rset (rset R k v) (k + 1) w) C := by
  rw [rset_comm (k := k) (l := k + 1) (by omega), det_sum (k := k) (by omega), ← rset_comm (k := k) (l := k + 1) (by omega), ← rset_comm (k := k) (l := k + 1) (by omega)]
theorem det_swap {C : List Nat} {R : Nat → Nat → Int} {k : Nat} {u v : Nat → Int} (h : k + 1 < C.length) : det (rset (rset R k u) (k + 1) v) C = - det (rset (rset R k v) (k + 1) u) C := by
  have key : ∀ w, det (rset (rset R k w) (k + 1) w) C = 0 := fun w => det_adj h (by
    rw [rset_eq, rset_ne (by omega), rset_eq])
  have h0 := key (fun c => u c + v c)
  rw [det_sum h, det_sum' h, det_sum' h, key u, key v] at h0
  omega
theorem det_eq {C : List Nat} : ∀ {d i : Nat} {R : Nat → Nat → Int}, i + d + 1 < C.length → R i = R (i + d + 1) → det R C = 0
  | 0, i, R, h, e => det_adj h e
  | d + 1, i, R, h, e => by
    have h1 : R = rset (rset R (i + d + 1) (R (i + d + 1))) (i + d + 1 + 1) (R (i + d + 1 + 1)) := by
      rw [rset_self, rset_self]
    rw [h1, det_swap (by omega)]
    rw [det_eq (d := d) (i := i) (by omega) ?_]
    · rfl
    · rw [rset_ne (by omega), rset_ne (by omega), rset_ne (by omega), rset_eq]
      exact e
theorem det_same {C : List Nat} {R : Nat → Nat → Int} {i j : Nat} (h : i ≠ j) (hi : i < C.length) (hj : j < C.length) (e : R i = R j) : det R C = 0 := by
  rcases Nat.lt_or_ge i j with g | g
  · refine det_eq (d := j - i - 1) (i := i) (by omega) ?_
    rw [show i + (j - i - 1) + 1 = j by omega]; exact e
  · refine det_eq (d := i - j - 1) (i := j) (by omega) ?_
    rw [show j + (i - j - 1) + 1 = i by omega]; exact e.symm
theorem det_zrow {C : List Nat} {R : Nat → Nat → Int} {k : Nat} {u : Nat → Int} {p : Int} (h : k < C.length) (hu : ∀ c, c ∈ C → p ∣ u c) : p ∣ det (rset R k u) C := by
  have h1 : det (rset R k u) C = det (rset R k (fun c => p * (u c / p) + 0 * u c)) C := by
    refine det_congr (fun i _ c hc => ?_)
    by_cases e : i = k
    · subst e
      rw [rset_eq, rset_eq, Int.mul_ediv_cancel' (hu c hc)]
      omega
    · rw [rset_ne e, rset_ne e]
  rw [h1, det_lin h, Int.zero_mul, Int.add_zero]
  exact ⟨_, rfl⟩
theorem det_psum {C : List Nat} {R : Nat → Nat → Int} {k : Nat} {l : Nat → Int} (h : k < C.length) : ∀ n, det (rset R k (fun c => psum (fun i => l i * R i c) n)) C = psum (fun i => l i * det (rset R k (R i)) C) n
  | 0 => by
    have := det_lin (s := 0) (t := 0) (u := fun _ => 0) (v := fun _ => 0) (R := R) h
    rw [Int.zero_mul, Int.zero_mul] at this
    exact this
  | n + 1 => by
    show _ = psum _ n + _
    rw [← det_psum h n]
    have := det_lin (s := 1) (t := l n) (u := fun c => psum (fun i => l i * R i c) n) (v := R n) (R := R) h
    rw [Int.one_mul] at this
    rw [← this]
    congr 2
    funext c
    rw [Int.one_mul]
    rfl
/-- a prime modulo which the rows depend on each other divides the determinant -/
theorem det_dep {C : List Nat} {R : Nat → Nat → Int} {k : Nat} {l : Nat → Int} {p : Int} (h : k < C.length) (hl : ∀ c, c ∈ C → p ∣ psum (fun i => l i * R i c) C.length) : p ∣ l k * det R C := by
  have h1 := det_zrow (R := R) h hl
  rw [det_psum h, psum_one (k := k) h (fun i hi e => by rw [det_same (i := k) (j := i) (fun e' => e e'.symm) h hi (by rw [rset_eq, rset_ne e]), Int.mul_zero]), rset_self] at h1
  exact h1
