/-! no number from s on, in steps of 2, 2^k of them, divides p -/
def ct (p : Nat) (k : Nat) : Nat → Bool := Nat.rec (fun s => !(p % s == 0)) (fun k ih s => ih s && ih (s + 2 * 2 ^ k)) k
theorem ct_ok {p : Nat} : ∀ {k s : Nat}, ct p k s = true → ∀ i, i < 2 ^ k → p % (s + 2 * i) ≠ 0
  | 0, s, h, i, hi => by
    rw [Nat.pow_zero] at hi
    rw [show i = 0 by omega, Nat.mul_zero, Nat.add_zero]
    intro c
    have h' : (!(p % s == 0)) = true := h
    rw [c] at h'
    exact absurd h' (by decide)
  | k + 1, s, h, i, hi => by
    have h' : (ct p k s && ct p k (s + 2 * 2 ^ k)) = true := h
    rw [Bool.and_eq_true] at h'
    rw [Nat.pow_succ] at hi
    by_cases c : i < 2 ^ k
    · exact ct_ok h'.1 i c
    · have := ct_ok h'.2 (i - 2 ^ k) (by omega)
      rw [show s + 2 * 2 ^ k + 2 * (i - 2 ^ k) = s + 2 * i by omega] at this
      exact this
theorem ct_prm {p k : Nat} (h1 : 3 < p) (h2 : p % 2 = 1) (h : ct p k 3 = true) (hk : p < (2 * 2 ^ k) * (2 * 2 ^ k)) : prm (p : Int) := by
  have key : ∀ d, 1 < d → d < 2 * 2 ^ k → ¬ d ∣ p := fun d a b c => by
    have hm : p % d = 0 := Nat.mod_eq_zero_of_dvd c
    rcases Nat.mod_two_eq_zero_or_one d with e | e
    · have : 2 ∣ p := Nat.dvd_trans (Nat.dvd_of_mod_eq_zero e) c
      have := Nat.mod_eq_zero_of_dvd this
      omega
    · have := ct_ok h ((d - 3) / 2) (by omega)
      rw [show 3 + 2 * ((d - 3) / 2) = d by omega] at this
      exact this hm
  refine prm_of (by omega) (fun d a b c => ?_)
  obtain ⟨e, he⟩ := c
  have e1 : 1 < e := by
    rcases Nat.lt_or_ge 1 e with q | q
    · exact q
    · have : e = 0 ∨ e = 1 := by omega
      rcases this with r | r
      · rw [r, Nat.mul_zero] at he; omega
      · rw [r, Nat.mul_one] at he; omega
  rcases Nat.lt_or_ge d (2 * 2 ^ k) with q | q
  · exact key d a q ⟨e, he⟩
  · rcases Nat.lt_or_ge e (2 * 2 ^ k) with r | r
    · exact key e e1 r ⟨d, by rw [he, Nat.mul_comm]⟩
    · have := Nat.mul_le_mul q r
      omega
def bigC : List Nat := [2147483647, 2147483629, 2147483587, 2147483579, 2147483563, 2147483549, 2147483543, 2147483497, 2147483489]
def bigM : List Nat := [1000000007, 1000000009, 1000000021, 1000000033, 1000000087, 1000000093, 1000000097, 1000000103, 1000000123, 1000000181]
def ctl : List Nat → Bool
  | [] => true
  | p :: ps => (decide (3 < p) && (p % 2 == 1) && decide (p < (2 * 2 ^ 15) * (2 * 2 ^ 15)) && ct p 15 3) && ctl ps
theorem ctl_ok : ∀ {ps : List Nat}, ctl ps = true → ∀ p, p ∈ ps → prm (p : Int)
  | [], _, p, hp => absurd hp List.not_mem_nil
  | q :: ps, h, p, hp => by
    have h' : ((decide (3 < q) && (q % 2 == 1) && decide (q < (2 * 2 ^ 15) * (2 * 2 ^ 15)) && ct q 15 3) && ctl ps) = true := h
    rw [Bool.and_eq_true, Bool.and_eq_true, Bool.and_eq_true, Bool.and_eq_true] at h'
    obtain ⟨⟨⟨⟨a, b⟩, c⟩, d⟩, e⟩ := h'
    rcases List.mem_cons.mp hp with f | f
    · rw [f]
      exact ct_prm (of_decide_eq_true a) (eq_of_beq b) d (of_decide_eq_true c)
    · exact ctl_ok e p f
theorem bigC_p : ∀ p, p ∈ bigC → prm (p : Int) := ctl_ok (by decide +kernel)
theorem bigM_p : ∀ p, p ∈ bigM → prm (p : Int) := ctl_ok (by decide +kernel)
