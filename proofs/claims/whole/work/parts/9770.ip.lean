/-! Sums of squares, and turning a factor round. -/
noncomputable def ip (u v : Pl) : Int := psum (fun i => u.1 i * v.1 i) u.2.choose
theorem ip_of {u v : Pl} {n : Nat} (h : dl n u) : ip u v = psum (fun i => u.1 i * v.1 i) n := by
  have e1 := psum_up (f := fun i => u.1 i * v.1 i) (n := u.2.choose) (m := u.2.choose + n) (fun i hi => by rw [u.2.choose_spec i hi, Int.zero_mul]) (by omega)
  have e2 := psum_up (f := fun i => u.1 i * v.1 i) (n := n) (m := u.2.choose + n) (fun i hi => by rw [h i hi, Int.zero_mul]) (by omega)
  unfold ip
  rw [← e1, e2]
theorem ip_comm (u v : Pl) : ip u v = ip v u := by
  obtain ⟨n, h⟩ := u.2
  obtain ⟨m, g⟩ := v.2
  rw [ip_of (n := n + m) (dl_mono (a := u) (by omega) h), ip_of (n := n + m) (dl_mono (a := v) (by omega) g)]
  exact psum_congr (fun i _ => Int.mul_comm _ _)
theorem ip_A (a b v : Pl) : ip (plA a b) v = ip a v + ip b v := by
  obtain ⟨n, h⟩ := a.2
  obtain ⟨m, g⟩ := b.2
  have h' : dl (n + m) a := dl_mono (by omega) h
  have g' : dl (n + m) b := dl_mono (by omega) g
  rw [ip_of (dl_A h' g'), ip_of h', ip_of g', ← psum_add]
  exact psum_congr (fun i _ => Int.add_mul _ _ _)
theorem ip_S (a b v : Pl) : ip (plS a b) v = ip a v - ip b v := by
  obtain ⟨n, h⟩ := a.2
  obtain ⟨m, g⟩ := b.2
  have h' : dl (n + m) a := dl_mono (by omega) h
  have g' : dl (n + m) b := dl_mono (by omega) g
  rw [ip_of (dl_S h' g'), ip_of h', ip_of g', ← psum_sub]
  exact psum_congr (fun i _ => Int.sub_mul _ _ _)
theorem ip_K (c : Int) (a v : Pl) : ip (plK c a) v = c * ip a v := by
  obtain ⟨n, h⟩ := a.2
  rw [ip_of (dl_K (a := a) h), ip_of (u := a) h, ← psum_mul]
  exact psum_congr (fun i _ => Int.mul_assoc _ _ _)
theorem ip_A' (a b v : Pl) : ip v (plA a b) = ip v a + ip v b := by rw [ip_comm, ip_A, ip_comm a, ip_comm b]
theorem ip_S' (a b v : Pl) : ip v (plS a b) = ip v a - ip v b := by rw [ip_comm, ip_S, ip_comm a, ip_comm b]
theorem ip_K' (c : Int) (a v : Pl) : ip v (plK c a) = c * ip v a := by rw [ip_comm, ip_K, ip_comm a]
theorem ip_U (u v : Pl) : ip (plU u) (plU v) = ip u v := by
  obtain ⟨n, h⟩ := u.2
  rw [ip_of (dl_U (a := u) h), ip_of (u := u) h, psum_succ]
  show (if 0 = 0 then 0 else u.1 (0 - 1)) * _ + psum (fun i => (if i + 1 = 0 then 0 else u.1 (i + 1 - 1)) * (if i + 1 = 0 then 0 else v.1 (i + 1 - 1))) n = _
  rw [if_pos rfl, Int.zero_mul, Int.zero_add]
  exact psum_congr (fun i _ => by rw [if_neg (by omega), if_neg (by omega), show i + 1 - 1 = i by omega])
noncomputable def s2 (u : Pl) : Int := ip u u
theorem s2_nn (u : Pl) : 0 ≤ s2 u := by
  obtain ⟨n, h⟩ := u.2
  unfold s2
  rw [ip_of (u := u) h]
  exact psum_nn (fun i => by
    rcases Int.le_total 0 (u.1 i) with c | c
    · exact Int.mul_nonneg c c
    · exact Int.mul_nonneg_of_nonpos_of_nonpos c c) n
theorem sq_nn (x : Int) : 0 ≤ x * x := by
  rcases Int.le_total 0 x with c | c
  · exact Int.mul_nonneg c c
  · exact Int.mul_nonneg_of_nonpos_of_nonpos c c
theorem s2_one (u : Pl) (i : Nat) : u.1 i * u.1 i ≤ s2 u := by
  obtain ⟨n, h⟩ := u.2
  unfold s2
  rw [ip_of (n := n + (i + 1)) (dl_mono (a := u) (by omega) h), psum_out (k := i) (by omega)]
  have := psum_nn (f := fun j => if j = i then 0 else u.1 j * u.1 j) (fun j => by
    show (0 : Int) ≤ if j = i then 0 else u.1 j * u.1 j
    split
    · exact Int.le_refl _
    · exact sq_nn _) (n + (i + 1))
  omega
/-- (a x + e) u, (a x^2 + b x + c) u, (a x^3 + b x^2 + c x + d) u -/
def q1 (a e : Int) (u : Pl) : Pl := plA (plK a (plU u)) (plK e u)
def q2 (a b c : Int) (u : Pl) : Pl := plA (plK a (plU (plU u))) (q1 b c u)
def q3 (a b c d : Int) (u : Pl) : Pl := plA (plK a (plU (plU (plU u)))) (q2 b c d u)
theorem ev_q1 (a e : Int) (u : Pl) (x : Int) : ev (q1 a e u) x = (a * x + e) * ev u x := by
  unfold q1
  rw [ev_A, ev_K, ev_K, ev_U]
  grind
theorem ev_q2 (a b c : Int) (u : Pl) (x : Int) : ev (q2 a b c u) x = (a * x * x + b * x + c) * ev u x := by
  unfold q2
  rw [ev_A, ev_K, ev_U, ev_U, ev_q1]
  grind
theorem ev_q3 (a b c d : Int) (u : Pl) (x : Int) : ev (q3 a b c d u) x = (a * x * x * x + b * x * x + c * x + d) * ev u x := by
  unfold q3
  rw [ev_A, ev_K, ev_U, ev_U, ev_U, ev_q2]
  grind
theorem s2_q1 (a e : Int) (u : Pl) : s2 (q1 a e u) = (a * a + e * e) * s2 u + 2 * (a * e) * ip (plU u) u := by
  unfold s2 q1
  simp only [ip_A, ip_A', ip_K, ip_K', ip_U]
  rw [ip_comm u (plU u)]
  grind
theorem s2_q1t (a e : Int) (u : Pl) : s2 (q1 a e u) = s2 (q1 e a u) := by
  rw [s2_q1, s2_q1]
  grind
theorem s2_q2 (a b c : Int) (u : Pl) : s2 (q2 a b c u) = (a * a + b * b + c * c) * s2 u + 2 * (a * b + b * c) * ip (plU u) u + 2 * (a * c) * ip (plU (plU u)) u := by
  unfold s2 q2 q1
  simp only [ip_A, ip_A', ip_K, ip_K', ip_U]
  rw [ip_comm u (plU u), ip_comm u (plU (plU u))]
  grind
theorem s2_q2t (a b c : Int) (u : Pl) : s2 (q2 a b c u) = s2 (q2 c b a u) := by
  rw [s2_q2, s2_q2]
  grind
theorem s2_q3 (a b c d : Int) (u : Pl) : s2 (q3 a b c d u) = (a * a + b * b + c * c + d * d) * s2 u + 2 * (a * b + b * c + c * d) * ip (plU u) u + 2 * (a * c + b * d) * ip (plU (plU u)) u + 2 * (a * d) * ip (plU (plU (plU u))) u := by
  unfold s2 q3 q2 q1
  simp only [ip_A, ip_A', ip_K, ip_K', ip_U]
  rw [ip_comm u (plU u), ip_comm u (plU (plU u)), ip_comm u (plU (plU (plU u)))]
  grind
theorem s2_q3t (a b c d : Int) (u : Pl) : s2 (q3 a b c d u) = s2 (q3 d c b a u) := by
  rw [s2_q3, s2_q3]
  grind
theorem plU_top {u : Pl} {m : Nat} : (plU u).1 (m + 1) = u.1 m := by
  show (if m + 1 = 0 then 0 else u.1 (m + 1 - 1)) = _
  rw [if_neg (by omega), show m + 1 - 1 = m by omega]
theorem q1_top {a e : Int} {u : Pl} {m : Nat} (h : dl (m + 1) u) : (q1 a e u).1 (m + 1) = a * u.1 m ∧ dl (m + 2) (q1 a e u) := by
  refine ⟨?_, dl_A (dl_K (dl_U h)) (dl_K (dl_mono (by omega) h))⟩
  show a * (plU u).1 (m + 1) + e * u.1 (m + 1) = _
  rw [plU_top, h (m + 1) (by omega)]
  omega
theorem q2_top {a b c : Int} {u : Pl} {m : Nat} (h : dl (m + 1) u) : (q2 a b c u).1 (m + 2) = a * u.1 m := by
  show a * (plU (plU u)).1 (m + 1 + 1) + (q1 b c u).1 (m + 2) = _
  rw [plU_top, plU_top, (q1_top h).2 (m + 2) (by omega)]
  omega
theorem q2_lead {a b c : Int} {u : Pl} {m : Nat} (h : dl (m + 1) u) : (a * u.1 m) * (a * u.1 m) ≤ s2 (q2 a b c u) ∧ (c * u.1 m) * (c * u.1 m) ≤ s2 (q2 a b c u) := by
  have h1 := s2_one (q2 a b c u) (m + 2)
  have h2 := s2_one (q2 c b a u) (m + 2)
  rw [q2_top h] at h1 h2
  rw [s2_q2t a b c] at *
  exact ⟨by rw [← s2_q2t]; rw [← s2_q2t] at h1; exact h1, h2⟩
theorem q1_lead {a e : Int} {u : Pl} {m : Nat} (h : dl (m + 1) u) : (e * u.1 m) * (e * u.1 m) ≤ s2 (q1 a e u) := by
  have h1 := s2_one (q1 e a u) (m + 1)
  rw [(q1_top h).1] at h1
  rw [s2_q1t]
  exact h1
/-- a sum of squares moved a little -/
theorem s2_apx {u v : Pl} {Q f : Int} (h : 2550 * (f * f * s2 v) ≤ Q * Q * s2 u) : 50 * s2 (plS (plK Q u) (plK f v)) ≤ 52 * (Q * Q * s2 u) := by
  have e1 : s2 (plS (plK Q u) (plK f v)) = Q * Q * s2 u - 2 * (Q * f) * ip u v + f * f * s2 v := by
    unfold s2
    simp only [ip_S, ip_S', ip_K, ip_K']
    rw [ip_comm v u]
    grind
  have e2 : s2 (plA (plK Q u) (plK (50 * f) v)) = Q * Q * s2 u + 100 * (Q * f) * ip u v + 2500 * (f * f) * s2 v := by
    unfold s2
    simp only [ip_A, ip_A', ip_K, ip_K']
    rw [ip_comm v u]
    grind
  have h2 := s2_nn (plA (plK Q u) (plK (50 * f) v))
  rw [e2] at h2
  rw [e1]
  have e3 : 100 * (Q * f) * ip u v = 100 * (Q * f * ip u v) := by grind
  have e4 : 2 * (Q * f) * ip u v = 2 * (Q * f * ip u v) := by grind
  have e5 : 2500 * (f * f) * s2 v = 2500 * (f * f * s2 v) := by grind
  rw [e3, e5] at h2
  rw [e4]
  omega
/-- a change of sign between -N and N, in small steps -/
theorem ivt {f : Int → Int} {N : Nat} {L : Int} (hL : 0 ≤ L) (hs : ∀ R : Int, -(N : Int) ≤ R → R < N → ab (f (R + 1) - f R) ≤ L) (h : (f (-(N : Int)) ≤ 0 ∧ 0 ≤ f N) ∨ (0 ≤ f (-(N : Int)) ∧ f N ≤ 0)) : ∃ R : Int, -(N : Int) ≤ R ∧ R ≤ N ∧ ab (f R) ≤ L := by
  have core : ∀ g : Int → Int, (∀ R : Int, -(N : Int) ≤ R → R < N → ab (g (R + 1) - g R) ≤ L) → g (-(N : Int)) ≤ 0 → 0 ≤ g N → ∃ R : Int, -(N : Int) ≤ R ∧ R ≤ N ∧ ab (g R) ≤ L := fun g hs h1 h2 => by
    obtain ⟨j, ⟨j1, j2⟩, j3⟩ := ex_min (P := fun j : Nat => j ≤ 2 * N ∧ 0 ≤ g (-(N : Int) + j)) ⟨2 * N, Nat.le_refl _, by
      rw [show -(N : Int) + ((2 * N : Nat) : Int) = N by omega]; exact h2⟩
    refine ⟨-(N : Int) + j, by omega, by omega, ?_⟩
    rcases Nat.eq_zero_or_pos j with e | e
    · subst e
      rw [show -(N : Int) + ((0 : Nat) : Int) = -(N : Int) by omega] at j2 ⊢
      have : g (-(N : Int)) = 0 := by omega
      rw [this]
      exact hL
    · have h3 := j3 (j - 1) (by omega)
      have h4 : ¬ 0 ≤ g (-(N : Int) + ((j - 1 : Nat) : Int)) := fun c => h3 ⟨by omega, c⟩
      have h5 := hs (-(N : Int) + ((j - 1 : Nat) : Int)) (by omega) (by omega)
      rw [show -(N : Int) + ((j - 1 : Nat) : Int) + 1 = -(N : Int) + j by omega] at h5
      unfold ab at h5 ⊢
      omega
  rcases h with ⟨h1, h2⟩ | ⟨h1, h2⟩
  · exact core f hs h1 h2
  · obtain ⟨R, r1, r2, r3⟩ := core (fun x => - f x) (fun R a b => by
      have := hs R a b
      show ab (- f (R + 1) - - f R) ≤ L
      unfold ab at this ⊢
      omega) (by show - f (-(N : Int)) ≤ 0; omega) (by show 0 ≤ - f N; omega)
    refine ⟨R, r1, r2, ?_⟩
    have r3' : ab (- f R) ≤ L := r3
    unfold ab at r3' ⊢
    omega
