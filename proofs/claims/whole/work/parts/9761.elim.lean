/-! Berlekamp's matrix, and how its kernel is found. -/
theorem pl_sum {v : Pl} {n : Nat} (h : dl n v) : v = plZ (fun i => plX (v.1 i) i) n := pl_ext (fun k => by
  rw [co_Z]
  by_cases c : k < n
  · rw [psum_one (k := k) c (fun i _ hi => by
      show (if k = i then v.1 i else 0) = 0
      rw [if_neg (fun e => hi e.symm)])]
    show v.1 k = if k = k then v.1 k else 0
    rw [if_pos rfl]
  · rw [h k (by omega), psum_zero (fun i hi => by
      show (if k = i then v.1 i else 0) = 0
      rw [if_neg (by omega)])])
theorem frob_Z {q : Nat} (hp : prm ((q + 2 : Nat) : Int)) (f : Nat → Pl) : ∀ n, cg ((q + 2 : Nat) : Int) (plP (plZ f n) (q + 2)) (plZ (fun i => plP (f i) (q + 2)) n)
  | 0 => cg_eq (fun x => by
      show ev (plP (plX 0 0) (q + 2)) x = ev (plX 0 0) x
      rw [ev_P, ev_X, Int.zero_mul, Int.zero_pow (by omega)])
  | n + 1 => cg_trans (frob (q := q + 1) hp (plZ f n) (f n)) (cg_A (frob_Z hp f n) cg_refl)
theorem cg_Z {p : Int} {f g : Nat → Pl} : ∀ {n : Nat}, (∀ i, i < n → cg p (f i) (g i)) → cg p (plZ f n) (plZ g n)
  | 0, _ => cg_refl
  | n + 1, h => cg_A (cg_Z (fun i hi => h i (by omega))) (h n (by omega))
theorem vp_sum {q n : Nat} (hp : prm ((q + 2 : Nat) : Int)) {v : Pl} (h : dl n v) : cg ((q + 2 : Nat) : Int) (plP v (q + 2)) (plZ (fun i => plK (v.1 i) (plX 1 ((q + 2) * i))) n) := by
  have e := pl_sum h
  have h1 : cg ((q + 2 : Nat) : Int) (plP v (q + 2)) (plP (plZ (fun i => plX (v.1 i) i) n) (q + 2)) := by
    rw [← e]
    exact cg_refl
  refine cg_trans h1 (cg_trans (frob_Z hp _ n) (cg_Z (fun i _ => ?_)))
  obtain ⟨y, hy⟩ := fermat (q := q + 1) hp (v.1 i)
  refine ⟨plX y ((q + 2) * i), fun x => ?_⟩
  rw [ev_P, ev_X, ev_K, ev_X, ev_X, Int.mul_pow, Nat.mul_comm (q + 2) i, Int.pow_mul]
  have : v.1 i ^ (q + 1 + 1) = v.1 i + ((q + 2 : Nat) : Int) * y := by
    have hy' : v.1 i ^ (q + 1 + 1) - v.1 i = ((q + 2 : Nat) : Int) * y := hy
    omega
  rw [show q + 2 = q + 1 + 1 from rfl] at *
  rw [this]
  grind
/-- f divides v^p - v just where the rows' sum is 0 -/
theorem bz {q n : Nat} (hp : prm ((q + 2 : Nat) : Int)) {f : Pl} {R : Nat → Pl} (hf : mon f n) (hR : ∀ i, i < n → dl n (R i) ∧ dvp ((q + 2 : Nat) : Int) f (plS (R i) (plS (plX 1 ((q + 2) * i)) (plX 1 i)))) {v : Pl} (hv : dl n v) : dvp ((q + 2 : Nat) : Int) f (plS (plP v (q + 2)) v) ↔ zr ((q + 2 : Nat) : Int) (plZ (fun i => plK (v.1 i) (R i)) n) := by
  have h1 : dvp ((q + 2 : Nat) : Int) f (plS (plZ (fun i => plK (v.1 i) (R i)) n) (plS (plP v (q + 2)) v)) := by
    have key : ∀ k, k ≤ n → dvp ((q + 2 : Nat) : Int) f (plS (plZ (fun i => plK (v.1 i) (R i)) k) (plS (plZ (fun i => plK (v.1 i) (plX 1 ((q + 2) * i))) k) (plZ (fun i => plX (v.1 i) i) k))) := by
      intro k
      induction k with
      | zero => exact fun _ => dvp_0 (fun i => by
          show _ ∣ (if i = 0 then (0 : Int) else 0) - ((if i = 0 then (0 : Int) else 0) - (if i = 0 then (0 : Int) else 0))
          exact ⟨0, by split <;> rfl⟩)
      | succ k ih =>
        intro hk
        have a1 := ih (by omega)
        have a2 : dvp ((q + 2 : Nat) : Int) f (plM (plX (v.1 k) 0) (plS (R k) (plS (plX 1 ((q + 2) * k)) (plX 1 k)))) := dvp_Ml (hR k (by omega)).2
        refine dvp_cg (dvp_A a1 a2) (cg_eq (fun x => ?_))
        show ev (plS (plA (plZ (fun i => plK (v.1 i) (R i)) k) (plK (v.1 k) (R k))) (plS (plA (plZ (fun i => plK (v.1 i) (plX 1 ((q + 2) * i))) k) (plK (v.1 k) (plX 1 ((q + 2) * k)))) (plA (plZ (fun i => plX (v.1 i) i) k) (plX (v.1 k) k)))) x = _
        simp only [ev_S, ev_A, ev_K, ev_M, ev_X, Int.pow_zero]
        grind
    have a3 := key n (Nat.le_refl _)
    rw [← pl_sum hv] at a3
    exact dvp_cg a3 (cg_S cg_refl (cg_S (vp_sum hp hv) cg_refl))
  have hd : dl n (plZ (fun i => plK (v.1 i) (R i)) n) := dl_Z (fun i hi => dl_K (hR i hi).1)
  constructor
  · intro h
    refine dvp_deg hp hf (dvp_cg (dvp_A h1 h) (cg_eq (fun x => by simp only [ev_S, ev_A]; omega))) hd
  · intro h
    exact dvp_cg (dvp_S (dvp_0 (a := f) h) h1) (cg_eq (fun x => by simp only [ev_S]; omega))
/-- the elimination under way: rows below k are done -/
def elim (p : Int) (n : Nat) (R : Nat → Nat → Int) (k : Nat) (m : Nat → Nat → Int) (pv : Nat → Nat) (F : Nat) (fr : Nat → Nat) (kr : Nat → Nat → Int) : Prop :=
  (∀ v : Nat → Int, (∀ j, j < n → p ∣ psum (fun i => v i * R i j) n) ↔ ∀ j, j < n → p ∣ psum (fun i => v i * m i j) n) ∧
  (∀ j, j < n → ∀ i, pv j = i + 1 → i < k ∧ p ∣ m i j + 1 ∧ ∀ l, l < n → l ≠ j → p ∣ m i l) ∧
  (∀ i, i < k → (∃ j, j < n ∧ pv j = i + 1) ∨ ∃ t, t < F ∧ fr t = i) ∧
  (∀ t, t < F → fr t < k ∧ (∀ j, j < n → pv j ≠ fr t + 1) ∧ ∀ j, j < n → pv j = 0 → p ∣ m (fr t) j) ∧
  (∀ t u, t < F → u < F → fr t = fr u → t = u) ∧
  (∀ t, t < F → kr t (fr t) = 1 ∧ (∀ j i, j < n → pv j = i + 1 → p ∣ kr t i - m (fr t) j) ∧ ∀ i, i ≠ fr t → (∀ j, j < n → pv j ≠ i + 1) → kr t i = 0)
theorem elim_0 {p : Int} {n : Nat} {R kr : Nat → Nat → Int} {fr : Nat → Nat} : elim p n R 0 R (fun _ => 0) 0 fr kr :=
  ⟨fun _ => Iff.rfl, fun j _ i h => by have h' : 0 = i + 1 := h; omega, fun i h => absurd h (Nat.not_lt_zero _), fun t h => absurd h (Nat.not_lt_zero _), fun t _ h => absurd h (Nat.not_lt_zero _), fun t h => absurd h (Nat.not_lt_zero _)⟩
theorem elim_pv {p : Int} (hp : prm p) {n k F : Nat} {R m kr : Nat → Nat → Int} {pv fr : Nat → Nat} (h : elim p n R k m pv F fr kr) {j l i : Nat} (hj : j < n) (hl : l < n) (e1 : pv j = i + 1) (e2 : pv l = i + 1) : j = l := by
  refine Classical.byContradiction (fun c => ?_)
  obtain ⟨_, a1, a2⟩ := h.2.1 j hj i e1
  obtain ⟨_, _, b2⟩ := h.2.1 l hl i e2
  have b3 := b2 j hj c
  have := Int.dvd_sub a1 b3
  rw [show m i j + 1 - m i j = 1 by omega] at this
  exact prm_1 hp this
/-- a row without a free column gives a row of the kernel -/
theorem elim_free {p : Int} {n k F : Nat} {R m kr kr' : Nat → Nat → Int} {pv fr : Nat → Nat} (h : elim p n R k m pv F fr kr) (hm : ∀ j, j < n → pv j = 0 → p ∣ m k j) (k0 : ∀ t, t < F → kr' t = kr t) (k1 : kr' F k = 1) (k2 : ∀ j i, j < n → pv j = i + 1 → p ∣ kr' F i - m k j) (k3 : ∀ i, i ≠ k → (∀ j, j < n → pv j ≠ i + 1) → kr' F i = 0) : elim p n R (k + 1) m pv (F + 1) (fun t => if t = F then k else fr t) kr' := by
  obtain ⟨h1, h2, h3, h4, h5, h6⟩ := h
  refine ⟨h1, fun j hj i e => ?_, fun i hi => ?_, fun t ht => ?_, fun t u ht hu e => ?_, fun t ht => ?_⟩
  · obtain ⟨a, b, c⟩ := h2 j hj i e
    exact ⟨by omega, b, c⟩
  · by_cases c : i = k
    · exact Or.inr ⟨F, by omega, by show (if F = F then k else fr F) = i; rw [if_pos rfl, c]⟩
    · rcases h3 i (by omega) with a | ⟨t, t1, t2⟩
      · exact Or.inl a
      · exact Or.inr ⟨t, by omega, by show (if t = F then k else fr t) = i; rw [if_neg (by omega)]; exact t2⟩
  · by_cases c : t = F
    · show (if t = F then k else fr t) < _ ∧ (∀ j, j < n → pv j ≠ (if t = F then k else fr t) + 1) ∧ ∀ j, j < n → pv j = 0 → p ∣ m (if t = F then k else fr t) j
      rw [if_pos c]
      refine ⟨by omega, fun j hj e => ?_, hm⟩
      have := (h2 j hj k e).1
      omega
    · show (if t = F then k else fr t) < _ ∧ (∀ j, j < n → pv j ≠ (if t = F then k else fr t) + 1) ∧ ∀ j, j < n → pv j = 0 → p ∣ m (if t = F then k else fr t) j
      rw [if_neg c]
      obtain ⟨a, b, d⟩ := h4 t (by omega)
      exact ⟨by omega, b, d⟩
  · have e' : (if t = F then k else fr t) = (if u = F then k else fr u) := e
    by_cases c : t = F
    · by_cases d : u = F
      · omega
      · rw [if_pos c, if_neg d] at e'
        have := (h4 u (by omega)).1
        omega
    · by_cases d : u = F
      · rw [if_neg c, if_pos d] at e'
        have := (h4 t (by omega)).1
        omega
      · rw [if_neg c, if_neg d] at e'
        exact h5 t u (by omega) (by omega) e'
  · by_cases c : t = F
    · show kr' t (if t = F then k else fr t) = 1 ∧ (∀ j i, j < n → pv j = i + 1 → p ∣ kr' t i - m (if t = F then k else fr t) j) ∧ ∀ i, i ≠ (if t = F then k else fr t) → (∀ j, j < n → pv j ≠ i + 1) → kr' t i = 0
      rw [if_pos c, c]
      exact ⟨k1, k2, k3⟩
    · show kr' t (if t = F then k else fr t) = 1 ∧ (∀ j i, j < n → pv j = i + 1 → p ∣ kr' t i - m (if t = F then k else fr t) j) ∧ ∀ i, i ≠ (if t = F then k else fr t) → (∀ j, j < n → pv j ≠ i + 1) → kr' t i = 0
      rw [if_neg c, k0 t (by omega)]
      exact h6 t (by omega)
/-- a row with a free column: the column is scaled, and added to the others -/
theorem elim_piv {p : Int} (hp : prm p) {n k F c : Nat} {s : Int} {R m m' kr : Nat → Nat → Int} {pv fr : Nat → Nat} (h : elim p n R k m pv F fr kr) (hk : k < n) (hc : c < n) (hpv : pv c = 0) (hs : p ∣ m k c * s + 1) (m0 : ∀ i j, i < k → j < n → m' i j = m i j) (m1 : ∀ i, k ≤ i → i < n → p ∣ m' i c - m i c * s) (m2 : ∀ i j, k ≤ i → i < n → j < n → j ≠ c → p ∣ m' i j - (m i j + m k j * m' i c)) : elim p n R (k + 1) m' (fun j => if j = c then k + 1 else pv j) F fr kr := by
  obtain ⟨h1, h2, h3, h4, h5, h6⟩ := id h
  -- rows that are done have 0 in the column
  have z : ∀ i, i < k → p ∣ m i c := fun i hi => by
    rcases h3 i hi with ⟨j, j1, j2⟩ | ⟨t, t1, t2⟩
    · refine (h2 j j1 i j2).2.2 c hc (fun e => ?_)
      rw [e] at hpv
      omega
    · rw [← t2]
      exact (h4 t t1).2.2 c hc hpv
  have colc : ∀ v : Nat → Int, p ∣ psum (fun i => v i * m' i c) n - s * psum (fun i => v i * m i c) n := fun v => by
    rw [← psum_mul, ← psum_sub]
    refine psum_dvd (fun i hi => ?_)
    by_cases g : i < k
    · rw [m0 i c g hc]
      have := z i g
      rw [show v i * m i c - s * (v i * m i c) = m i c * (v i - s * v i) by grind]
      exact Int.dvd_mul_of_dvd_left this
    · obtain ⟨y, hy⟩ := m1 i (by omega) hi
      exact ⟨v i * y, by grind⟩
  have colj : ∀ (v : Nat → Int) (j : Nat), j < n → j ≠ c → p ∣ psum (fun i => v i * m' i j) n - (psum (fun i => v i * m i j) n + m k j * psum (fun i => v i * m' i c) n) := fun v j hj hjc => by
    rw [← psum_mul, ← psum_add, ← psum_sub]
    refine psum_dvd (fun i hi => ?_)
    by_cases g : i < k
    · rw [m0 i j g hj, m0 i c g hc]
      have := z i g
      rw [show v i * m i j - (v i * m i j + m k j * (v i * m i c)) = m i c * (-(m k j * v i)) by grind]
      exact Int.dvd_mul_of_dvd_left this
    · obtain ⟨y, hy⟩ := m2 i j (by omega) hi hj hjc
      exact ⟨v i * y, by grind⟩
  have ns : ¬ p ∣ s := fun d => by
    have := Int.dvd_sub hs (Int.dvd_mul_of_dvd_right (b := m k c) d)
    rw [show m k c * s + 1 - m k c * s = 1 by omega] at this
    exact prm_1 hp this
  refine ⟨fun v => Iff.trans (h1 v) ⟨fun q => ?_, fun q => ?_⟩, fun j hj i e => ?_, fun i hi => ?_, fun t ht => ?_, h5, fun t ht => ?_⟩
  · have qc : p ∣ psum (fun i => v i * m' i c) n := by
      have := Int.dvd_add (colc v) (Int.dvd_mul_of_dvd_right (b := s) (q c hc))
      rw [show psum (fun i => v i * m' i c) n - s * psum (fun i => v i * m i c) n + s * psum (fun i => v i * m i c) n = psum (fun i => v i * m' i c) n by omega] at this
      exact this
    intro j hj
    by_cases g : j = c
    · rw [g]; exact qc
    · have := Int.dvd_add (colj v j hj g) (Int.dvd_add (q j hj) (Int.dvd_mul_of_dvd_right (b := m k j) qc))
      rw [show psum (fun i => v i * m' i j) n - (psum (fun i => v i * m i j) n + m k j * psum (fun i => v i * m' i c) n) + (psum (fun i => v i * m i j) n + m k j * psum (fun i => v i * m' i c) n) = psum (fun i => v i * m' i j) n by omega] at this
      exact this
  · have qc := q c hc
    have qm : p ∣ psum (fun i => v i * m i c) n := by
      have := Int.dvd_sub qc (colc v)
      rw [show psum (fun i => v i * m' i c) n - (psum (fun i => v i * m' i c) n - s * psum (fun i => v i * m i c) n) = s * psum (fun i => v i * m i c) n by omega] at this
      rcases hp.2 _ _ this with d | d
      · exact absurd d ns
      · exact d
    intro j hj
    by_cases g : j = c
    · rw [g]; exact qm
    · have := Int.dvd_sub (Int.dvd_sub (q j hj) (colj v j hj g)) (Int.dvd_mul_of_dvd_right (b := m k j) qc)
      rw [show psum (fun i => v i * m' i j) n - (psum (fun i => v i * m' i j) n - (psum (fun i => v i * m i j) n + m k j * psum (fun i => v i * m' i c) n)) - m k j * psum (fun i => v i * m' i c) n = psum (fun i => v i * m i j) n by omega] at this
      exact this
  · have e' : (if j = c then k + 1 else pv j) = i + 1 := e
    by_cases g : j = c
    · rw [if_pos g] at e'
      have : i = k := by omega
      subst this
      have a1 : p ∣ m' i c + 1 := by
        have := Int.dvd_add (m1 i (Nat.le_refl _) hk) hs
        rw [show m' i c - m i c * s + (m i c * s + 1) = m' i c + 1 by omega] at this
        exact this
      refine ⟨by omega, by rw [g]; exact a1, fun l hl hlj => ?_⟩
      obtain ⟨y, hy⟩ := m2 i l (Nat.le_refl _) hk hl (by omega)
      obtain ⟨w, hw⟩ := a1
      exact ⟨y + m i l * w, by grind⟩
    · rw [if_neg g] at e'
      obtain ⟨a, b, d⟩ := h2 j hj i e'
      refine ⟨by omega, by rw [m0 i j a hj]; exact b, fun l hl hlj => by rw [m0 i l a hl]; exact d l hl hlj⟩
  · by_cases g : i = k
    · exact Or.inl ⟨c, hc, by show (if c = c then k + 1 else pv c) = i + 1; rw [if_pos rfl, g]⟩
    · rcases h3 i (by omega) with ⟨j, j1, j2⟩ | a
      · refine Or.inl ⟨j, j1, ?_⟩
        show (if j = c then k + 1 else pv j) = i + 1
        rw [if_neg (fun e => by rw [e] at j2; omega)]
        exact j2
      · exact Or.inr a
  · obtain ⟨a, b, d⟩ := h4 t ht
    refine ⟨by omega, fun j hj => ?_, fun j hj e => ?_⟩
    · show (if j = c then k + 1 else pv j) ≠ fr t + 1
      by_cases g : j = c
      · rw [if_pos g]; omega
      · rw [if_neg g]; exact b j hj
    · have e' : (if j = c then k + 1 else pv j) = 0 := e
      by_cases g : j = c
      · rw [if_pos g] at e'; omega
      · rw [if_neg g] at e'
        rw [m0 _ j a hj]
        exact d j hj e'
  · obtain ⟨a, b, d⟩ := h6 t ht
    obtain ⟨a4, b4, d4⟩ := h4 t ht
    refine ⟨a, fun j i hj e => ?_, fun i hi e => d i hi (fun j hj => ?_)⟩
    · have e' : (if j = c then k + 1 else pv j) = i + 1 := e
      by_cases g : j = c
      · rw [if_pos g] at e'
        have : i = k := by omega
        rw [this, g, d k (by omega) (fun l hl q => by have := (h2 l hl k q).1; omega), m0 _ c a4 hc]
        have := z (fr t) a4
        rw [Int.zero_sub]
        exact Int.dvd_neg.mpr this
      · rw [if_neg g] at e'
        rw [m0 _ j a4 hj]
        exact b j i hj e'
    · have := e j hj
      have e' : (if j = c then k + 1 else pv j) ≠ i + 1 := this
      by_cases g : j = c
      · rw [g, hpv]; omega
      · rw [if_neg g] at e'; exact e'
theorem psum_sel {p : Int} {n : Nat} {fr : Nat → Nat} : ∀ {F : Nat} {g : Nat → Int}, (∀ t u, t < F → u < F → fr t = fr u → t = u) → (∀ t, t < F → fr t < n) → (∀ i, i < n → (∀ t, t < F → fr t ≠ i) → p ∣ g i) → p ∣ psum g n - psum (fun t => g (fr t)) F
  | 0, g, _, _, h => by
    have : p ∣ psum g n := psum_dvd (fun i hi => h i hi (fun t ht => absurd ht (Nat.not_lt_zero _)))
    show p ∣ psum g n - 0
    rw [Int.sub_zero]
    exact this
  | F + 1, g, h1, h2, h => by
    have ih := psum_sel (p := p) (n := n) (fr := fr) (F := F) (g := fun i => if i = fr F then 0 else g i) (fun t u a b e => h1 t u (by omega) (by omega) e) (fun t ht => h2 t (by omega)) (fun i hi hf => by
      show p ∣ (if i = fr F then 0 else g i)
      by_cases c : i = fr F
      · rw [if_pos c]; exact ⟨0, (Int.mul_zero p).symm⟩
      · rw [if_neg c]
        refine h i hi (fun t ht e => ?_)
        by_cases d : t = F
        · rw [d] at e; exact c e.symm
        · exact hf t (by omega) e)
    rw [psum_out (k := fr F) (h2 F (by omega))]
    show p ∣ g (fr F) + psum (fun i => if i = fr F then 0 else g i) n - (psum (fun t => g (fr t)) F + g (fr F))
    have e1 : psum (fun t => (if fr t = fr F then 0 else g (fr t))) F = psum (fun t => g (fr t)) F := psum_congr (fun t ht => by
      rw [if_neg (fun e => by have := h1 t F (by omega) (by omega) e; omega)])
    have ih' : p ∣ psum (fun i => if i = fr F then 0 else g i) n - psum (fun t => (if fr t = fr F then 0 else g (fr t))) F := ih
    rw [e1] at ih'
    rw [show g (fr F) + psum (fun i => if i = fr F then 0 else g i) n - (psum (fun t => g (fr t)) F + g (fr F)) = psum (fun i => if i = fr F then 0 else g i) n - psum (fun t => g (fr t)) F by omega]
    exact ih'
theorem elim_col {p : Int} {n F : Nat} {R m kr : Nat → Nat → Int} {pv fr : Nat → Nat} (h : elim p n R n m pv F fr kr) (v : Nat → Int) {j i : Nat} (hj : j < n) (e : pv j = i + 1) : p ∣ psum (fun l => v l * m l j) n - (psum (fun t => v (fr t) * m (fr t) j) F - v i) := by
  obtain ⟨h1, h2, h3, h4, h5, h6⟩ := id h
  obtain ⟨i1, i2, i3⟩ := h2 j hj i e
  have hs := psum_sel (p := p) (n := n) (fr := fr) (F := F) (g := fun l => if l = i then 0 else v l * m l j) h5 (fun t ht => (h4 t ht).1) (fun l hl hf => by
    show p ∣ (if l = i then 0 else v l * m l j)
    by_cases c : l = i
    · rw [if_pos c]; exact ⟨0, (Int.mul_zero p).symm⟩
    · rw [if_neg c]
      rcases h3 l hl with ⟨k, k1, k2⟩ | ⟨t, t1, t2⟩
      · exact Int.dvd_mul_of_dvd_right ((h2 k k1 l k2).2.2 j hj (fun q => by rw [q] at e; omega))
      · exact absurd t2 (hf t t1))
  have e1 : psum (fun t => (if fr t = i then 0 else v (fr t) * m (fr t) j)) F = psum (fun t => v (fr t) * m (fr t) j) F := psum_congr (fun t ht => by
    rw [if_neg (fun q => (h4 t ht).2.1 j hj (by rw [q]; exact e))])
  have hs' : p ∣ psum (fun l => if l = i then 0 else v l * m l j) n - psum (fun t => (if fr t = i then 0 else v (fr t) * m (fr t) j)) F := hs
  rw [e1] at hs'
  rw [psum_out (k := i) i1]
  obtain ⟨y, hy⟩ := hs'
  obtain ⟨z, hz⟩ := i2
  exact ⟨y + v i * z, by grind⟩
theorem elim_krf {p : Int} {n F : Nat} {R m kr : Nat → Nat → Int} {pv fr : Nat → Nat} (h : elim p n R n m pv F fr kr) {t u : Nat} (ht : t < F) (hu : u < F) : kr t (fr u) = if t = u then 1 else 0 := by
  obtain ⟨h1, h2, h3, h4, h5, h6⟩ := id h
  by_cases c : t = u
  · rw [if_pos c, ← c]; exact (h6 t ht).1
  · rw [if_neg c]
    exact (h6 t ht).2.2 (fr u) (fun e => c (h5 u t hu ht e).symm) (h4 u hu).2.1
/-- what all rows of the kernel make is in the kernel -/
theorem elim_A {p : Int} {n F : Nat} {R m kr : Nat → Nat → Int} {pv fr : Nat → Nat} (h : elim p n R n m pv F fr kr) (c : Nat → Int) : ∀ j, j < n → p ∣ psum (fun i => psum (fun t => c t * kr t i) F * R i j) n := by
  obtain ⟨h1, h2, h3, h4, h5, h6⟩ := id h
  refine (h1 (fun i => psum (fun t => c t * kr t i) F)).mpr (fun j hj => ?_)
  rcases Nat.eq_zero_or_pos (pv j) with e | e
  · refine psum_dvd (fun i hi => Int.dvd_mul_of_dvd_right ?_)
    rcases h3 i hi with ⟨k, k1, k2⟩ | ⟨t, t1, t2⟩
    · exact (h2 k k1 i k2).2.2 j hj (fun q => by rw [q] at e; omega)
    · rw [← t2]; exact (h4 t t1).2.2 j hj e
  · obtain ⟨i, hi⟩ : ∃ i, pv j = i + 1 := ⟨pv j - 1, by omega⟩
    have h7 := elim_col h (fun i => psum (fun t => c t * kr t i) F) hj hi
    have h8 : psum (fun u => psum (fun t => c t * kr t (fr u)) F * m (fr u) j) F = psum (fun u => c u * m (fr u) j) F := psum_congr (fun u hu => by
      rw [psum_one (k := u) hu (fun t ht hne => by rw [elim_krf h ht hu, if_neg hne, Int.mul_zero]), elim_krf h hu hu, if_pos rfl, Int.mul_one])
    have h9 : p ∣ psum (fun u => c u * m (fr u) j) F - psum (fun t => c t * kr t i) F := by
      rw [← psum_sub]
      refine psum_dvd (fun t ht => ?_)
      have := (h6 t ht).2.1 j i hj hi
      rw [show c t * m (fr t) j - c t * kr t i = c t * (-(kr t i - m (fr t) j)) by grind]
      exact Int.dvd_mul_of_dvd_right (Int.dvd_neg.mpr this)
    have h7' : p ∣ psum (fun l => psum (fun t => c t * kr t l) F * m l j) n - (psum (fun u => psum (fun t => c t * kr t (fr u)) F * m (fr u) j) F - psum (fun t => c t * kr t i) F) := h7
    rw [h8] at h7'
    have := Int.dvd_add h7' h9
    rw [show psum (fun l => psum (fun t => c t * kr t l) F * m l j) n - (psum (fun u => c u * m (fr u) j) F - psum (fun t => c t * kr t i) F) + (psum (fun u => c u * m (fr u) j) F - psum (fun t => c t * kr t i) F) = psum (fun l => psum (fun t => c t * kr t l) F * m l j) n by omega] at this
    exact this
/-- what is in the kernel is made of its rows -/
theorem elim_B {p : Int} {n F : Nat} {R m kr : Nat → Nat → Int} {pv fr : Nat → Nat} (h : elim p n R n m pv F fr kr) {v : Nat → Int} (hv : ∀ j, j < n → p ∣ psum (fun i => v i * R i j) n) : ∀ i, i < n → p ∣ v i - psum (fun t => v (fr t) * kr t i) F := by
  obtain ⟨h1, h2, h3, h4, h5, h6⟩ := id h
  have hm := (h1 v).mp hv
  intro i hi
  rcases h3 i hi with ⟨j, j1, j2⟩ | ⟨u, u1, u2⟩
  · have h7 := elim_col h v j1 j2
    have h8 := hm j j1
    have h9 : p ∣ psum (fun u => v (fr u) * m (fr u) j) F - psum (fun t => v (fr t) * kr t i) F := by
      rw [← psum_sub]
      refine psum_dvd (fun t ht => ?_)
      have := (h6 t ht).2.1 j i j1 j2
      rw [show v (fr t) * m (fr t) j - v (fr t) * kr t i = v (fr t) * (-(kr t i - m (fr t) j)) by grind]
      exact Int.dvd_mul_of_dvd_right (Int.dvd_neg.mpr this)
    have := Int.dvd_add (Int.dvd_sub h7 h8) h9
    rw [show psum (fun l => v l * m l j) n - (psum (fun t => v (fr t) * m (fr t) j) F - v i) - psum (fun l => v l * m l j) n + (psum (fun u => v (fr u) * m (fr u) j) F - psum (fun t => v (fr t) * kr t i) F) = v i - psum (fun t => v (fr t) * kr t i) F by omega] at this
    exact this
  · rw [← u2, psum_one (k := u) u1 (fun t ht hne => by rw [elim_krf h ht u1, if_neg hne, Int.mul_zero]), elim_krf h u1 u1, if_pos rfl, Int.mul_one, Int.sub_self]
    exact ⟨0, (Int.mul_zero p).symm⟩
/-- the end: as many free rows as parts -/
theorem elim_dim {q n r F : Nat} {f : Pl} {P : Nat → Pl} {R : Nat → Pl} {m kr : Nat → Nat → Int} {pv fr : Nat → Nat} (hp : prm ((q + 2 : Nat) : Int)) (hf : mon f n) (hR : ∀ i, i < n → dl n (R i) ∧ dvp ((q + 2 : Nat) : Int) f (plS (R i) (plS (plX 1 ((q + 2) * i)) (plX 1 i))))
    (h : elim ((q + 2 : Nat) : Int) n (fun i j => (R i).1 j) n m pv F fr kr) (kn : ∀ t i, t < F → n ≤ i → kr t i = 0)
    (hF : ∀ w, dvp ((q + 2 : Nat) : Int) f w ↔ ∀ i, i < r → dvp ((q + 2 : Nat) : Int) (P i) w) (hL : ∀ i, i < r → loc ((q + 2 : Nat) : Int) (P i)) (hC : pwc ((q + 2 : Nat) : Int) P r) : F = r := by
  let K : Nat → Pl := fun t => cut (kr t) 0 n
  have Kv : ∀ t i, t < F → (K t).1 i = kr t i := fun t i ht => by
    show (if i < n then kr t (0 + i) else 0) = _
    by_cases c : i < n
    · rw [if_pos c, Nat.zero_add]
    · rw [if_neg c, kn t i ht (by omega)]
  have zrw' : ∀ v : Pl, dl n v → (zr ((q + 2 : Nat) : Int) (plZ (fun i => plK (v.1 i) (R i)) n) ↔ ∀ j, j < n → ((q + 2 : Nat) : Int) ∣ psum (fun i => v.1 i * (R i).1 j) n) := fun v _ => by
    constructor
    · intro g j _
      have := g j
      rw [co_Z] at this
      exact this
    · intro g j
      rw [co_Z]
      by_cases c : j < n
      · exact g j c
      · refine psum_dvd (fun i hi => ?_)
        show _ ∣ v.1 i * (R i).1 j
        rw [(hR i hi).1 j (by omega), Int.mul_zero]
        exact ⟨0, (Int.mul_zero _).symm⟩
  refine dim_eq (K := K) (kp := fr) hp hf hF hL hC (fun c => ?_) (fun v hv hd => ?_) (fun j i hj hi => ?_) (fun j _ => cut_dl)
  · have hd : dl n (plZ (fun j => plK (c j) (K j)) F) := dl_Z (fun j _ => dl_K cut_dl)
    refine (bz hp hf hR hd).mpr ((zrw' _ hd).mpr (fun j hj => ?_))
    have := elim_A h c j hj
    refine (Eq.mp ?_ this)
    congr 1
    refine psum_congr (fun i _ => ?_)
    congr 1
    rw [co_Z]
    exact (psum_congr (fun t ht => by show c t * (K t).1 i = _; rw [Kv t i ht])).symm
  · have h2 := (zrw' v hv).mp ((bz hp hf hR hv).mp hd)
    have h3 := elim_B h h2
    refine cg_of (fun i => ?_)
    rw [co_Z]
    by_cases c : i < n
    · have := h3 i c
      refine (Eq.mp ?_ this)
      congr 2
      exact psum_congr (fun t ht => by show _ = v.1 (fr t) * (K t).1 i; rw [Kv t i ht])
    · rw [hv i (by omega), psum_zero (fun t ht => by
        show v.1 (fr t) * (K t).1 i = 0
        rw [Kv t i ht, kn t i ht (by omega), Int.mul_zero])]
      exact ⟨0, by rw [Int.mul_zero]; rfl⟩
  · rw [Kv j (fr i) hj, elim_krf h hj hi, Int.sub_self]
    exact ⟨0, (Int.mul_zero _).symm⟩
