/-! Binomial numbers, Fermat, and the primes of both lists. -/
def bc : Nat → Nat → Nat
  | _, 0 => 1
  | 0, _ + 1 => 0
  | n + 1, k + 1 => bc n k + bc n (k + 1)
theorem bc_0 (n : Nat) : bc n 0 = 1 := by cases n <;> rfl
theorem bc_hi : ∀ n k, n < k → bc n k = 0
  | n, 0, h => absurd h (Nat.not_lt_zero _)
  | 0, k + 1, _ => rfl
  | n + 1, k + 1, h => by
    show bc n k + bc n (k + 1) = 0
    rw [bc_hi n k (by omega), bc_hi n (k + 1) (by omega)]
theorem bc_self : ∀ n, bc n n = 1
  | 0 => rfl
  | n + 1 => by
    show bc n n + bc n (n + 1) = 1
    rw [bc_self n, bc_hi n (n + 1) (by omega)]
theorem bc_abs : ∀ n k, (k + 1) * bc (n + 1) (k + 1) = (n + 1) * bc n k
  | 0, 0 => rfl
  | 0, k + 1 => by
    show (k + 1 + 1) * (0 + 0) = _ * 0
    omega
  | n + 1, 0 => by
    have ih := bc_abs n 0
    show (0 + 1) * (bc (n + 1) 0 + bc (n + 1) (0 + 1)) = (n + 1 + 1) * bc (n + 1) 0
    rw [bc_0] at ih
    rw [bc_0]
    omega
  | n + 1, k + 1 => by
    have i1 := bc_abs n k
    have i2 := bc_abs n (k + 1)
    show (k + 1 + 1) * (bc (n + 1) (k + 1) + bc (n + 1) (k + 1 + 1)) = (n + 1 + 1) * bc (n + 1) (k + 1)
    have e : bc (n + 1) (k + 1) = bc n k + bc n (k + 1) := rfl
    have e2 : (n + 1) * bc (n + 1) (k + 1) = (n + 1) * bc n k + (n + 1) * bc n (k + 1) := by rw [e, Nat.mul_add]
    have e3 : (k + 1 + 1) * (bc (n + 1) (k + 1) + bc (n + 1) (k + 1 + 1)) = (k + 1) * bc (n + 1) (k + 1) + bc (n + 1) (k + 1) + (k + 1 + 1) * bc (n + 1) (k + 1 + 1) := by grind
    have e4 : (n + 1 + 1) * bc (n + 1) (k + 1) = (n + 1) * bc (n + 1) (k + 1) + bc (n + 1) (k + 1) := by grind
    omega
theorem binom (x y : Int) : ∀ n, (x + y) ^ n = psum (fun k => (bc n k : Int) * (x ^ k * y ^ (n - k))) (n + 1)
  | 0 => by
    show _ = 0 + (1 : Int) * (x ^ 0 * y ^ 0)
    rw [Int.pow_zero, Int.pow_zero, Int.pow_zero]
    rfl
  | n + 1 => by
    have e1 : psum (fun k => (bc n k : Int) * (x ^ k * y ^ (n - k))) (n + 1) * x = psum (fun k => (bc n k : Int) * (x ^ (k + 1) * y ^ (n - k))) (n + 1) := by
      rw [Int.mul_comm, ← psum_mul]
      exact psum_congr (fun k _ => by rw [Int.pow_succ]; grind)
    have e2 : psum (fun k => (bc n k : Int) * (x ^ k * y ^ (n - k))) (n + 1) * y = psum (fun k => (bc n k : Int) * (x ^ k * y ^ (n + 1 - k))) (n + 2) := by
      rw [Int.mul_comm, ← psum_mul]
      show _ = psum (fun k => (bc n k : Int) * (x ^ k * y ^ (n + 1 - k))) (n + 1) + (bc n (n + 1) : Int) * (x ^ (n + 1) * y ^ (n + 1 - (n + 1)))
      rw [bc_hi n (n + 1) (by omega), show ((0 : Nat) : Int) = 0 from rfl, Int.zero_mul, Int.add_zero]
      exact psum_congr (fun k hk => by rw [show n + 1 - k = (n - k) + 1 by omega, Int.pow_succ]; grind)
    rw [Int.pow_succ, binom x y n, Int.mul_add, e1, e2, psum_succ (f := fun k => (bc (n + 1) k : Int) * (x ^ k * y ^ (n + 1 - k))), psum_succ (f := fun k => (bc n k : Int) * (x ^ k * y ^ (n + 1 - k)))]
    have e3 : psum (fun k => (bc (n + 1) (k + 1) : Int) * (x ^ (k + 1) * y ^ (n + 1 - (k + 1)))) (n + 1) = psum (fun k => (bc n k : Int) * (x ^ (k + 1) * y ^ (n - k))) (n + 1) + psum (fun k => (bc n (k + 1) : Int) * (x ^ (k + 1) * y ^ (n + 1 - (k + 1)))) (n + 1) := by
      rw [← psum_add]
      refine psum_congr (fun k _ => ?_)
      show ((bc n k + bc n (k + 1) : Nat) : Int) * _ = _
      rw [Int.natCast_add, show n + 1 - (k + 1) = n - k by omega]
      grind
    rw [e3, bc_0, bc_0]
    omega
theorem bc_prm {q k : Nat} (hp : prm ((q + 1 : Nat) : Int)) (hk : k < q) : ((q + 1 : Nat) : Int) ∣ (bc (q + 1) (k + 1) : Int) := by
  have h : ((q + 1 : Nat) : Int) ∣ ((k + 1 : Nat) : Int) * (bc (q + 1) (k + 1) : Int) := by
    rw [← Int.natCast_mul, bc_abs, Int.natCast_mul]
    exact ⟨_, rfl⟩
  rcases hp.2 _ _ h with c | c
  · have := Int.le_of_dvd (by omega) c
    omega
  · exact c
theorem frob_int {q : Nat} (hp : prm ((q + 1 : Nat) : Int)) (x y : Int) : ((q + 1 : Nat) : Int) ∣ (x + y) ^ (q + 1) - (x ^ (q + 1) + y ^ (q + 1)) := by
  rw [binom, show psum (fun k => (bc (q + 1) k : Int) * (x ^ k * y ^ (q + 1 - k))) (q + 1 + 1) = psum (fun k => (bc (q + 1) k : Int) * (x ^ k * y ^ (q + 1 - k))) (q + 1) + (bc (q + 1) (q + 1) : Int) * (x ^ (q + 1) * y ^ (q + 1 - (q + 1))) from rfl, psum_succ, bc_0, bc_self, Nat.sub_self, Nat.sub_zero, Int.pow_zero, Int.pow_zero]
  have h : ((q + 1 : Nat) : Int) ∣ psum (fun k => (bc (q + 1) (k + 1) : Int) * (x ^ (k + 1) * y ^ (q + 1 - (k + 1)))) q := psum_dvd (fun k hk => Int.dvd_mul_of_dvd_left (bc_prm hp hk))
  rw [show (((1 : Nat) : Int) * (1 * y ^ (q + 1)) + psum (fun k => (bc (q + 1) (k + 1) : Int) * (x ^ (k + 1) * y ^ (q + 1 - (k + 1)))) q + ((1 : Nat) : Int) * (x ^ (q + 1) * 1) - (x ^ (q + 1) + y ^ (q + 1))) = psum (fun k => (bc (q + 1) (k + 1) : Int) * (x ^ (k + 1) * y ^ (q + 1 - (k + 1)))) q by omega]
  exact h
theorem pow_cong {p a b : Int} (h : p ∣ a - b) : ∀ n : Nat, p ∣ a ^ n - b ^ n
  | 0 => by rw [Int.pow_zero, Int.pow_zero]; exact ⟨0, by rw [Int.mul_zero]; rfl⟩
  | n + 1 => by
    rw [Int.pow_succ, Int.pow_succ, show a ^ n * a - b ^ n * b = a ^ n * (a - b) + (a ^ n - b ^ n) * b by grind]
    exact Int.dvd_add (Int.dvd_mul_of_dvd_right h) (Int.dvd_mul_of_dvd_left (pow_cong h n))
theorem fermat {q : Nat} (hp : prm ((q + 1 : Nat) : Int)) (a : Int) : ((q + 1 : Nat) : Int) ∣ a ^ (q + 1) - a := by
  have key : ∀ n : Nat, ((q + 1 : Nat) : Int) ∣ (n : Int) ^ (q + 1) - n := by
    intro n
    induction n with
    | zero => rw [show ((0 : Nat) : Int) = 0 from rfl, Int.zero_pow (by omega)]; exact ⟨0, by rw [Int.mul_zero]; rfl⟩
    | succ n ih =>
      have h := frob_int hp (n : Int) 1
      rw [Int.one_pow] at h
      rw [show ((n + 1 : Nat) : Int) = (n : Int) + 1 from rfl, show ((n : Int) + 1) ^ (q + 1) - ((n : Int) + 1) = (((n : Int) + 1) ^ (q + 1) - ((n : Int) ^ (q + 1) + 1)) + ((n : Int) ^ (q + 1) - n) by omega]
      exact Int.dvd_add h ih
  have h1 := key (a % ((q + 1 : Nat) : Int)).toNat
  have e : ((a % ((q + 1 : Nat) : Int)).toNat : Int) = a % ((q + 1 : Nat) : Int) := Int.toNat_of_nonneg (Int.emod_nonneg _ (by omega))
  rw [e] at h1
  have h2 : ((q + 1 : Nat) : Int) ∣ a - a % ((q + 1 : Nat) : Int) := Int.dvd_self_sub_emod
  have h3 := pow_cong h2 (q + 1)
  rw [show a ^ (q + 1) - a = (a ^ (q + 1) - (a % ((q + 1 : Nat) : Int)) ^ (q + 1)) + ((a % ((q + 1 : Nat) : Int)) ^ (q + 1) - a % ((q + 1 : Nat) : Int)) - (a - a % ((q + 1 : Nat) : Int)) by omega]
  exact Int.dvd_sub (Int.dvd_add h3 h1) h2
theorem fermat_inv {q : Nat} (hp : prm ((q + 2 : Nat) : Int)) {a : Int} (ha : ¬ ((q + 2 : Nat) : Int) ∣ a) : ((q + 2 : Nat) : Int) ∣ a * a ^ q - 1 := by
  have h := fermat (q := q + 1) hp a
  rw [Int.pow_succ, Int.pow_succ, show a ^ q * a * a - a = a * (a * a ^ q - 1) by grind] at h
  rcases hp.2 _ _ h with c | c
  · exact absurd c ha
  · exact c
