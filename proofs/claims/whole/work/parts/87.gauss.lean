/-! Primes, primitive polynomials, Bezout over the whole numbers. -/
def prm (p : Int) : Prop := 1 < p ∧ ∀ a b : Int, p ∣ a * b → p ∣ a ∨ p ∣ b
theorem ex_min {P : Nat → Prop} (h : ∃ n, P n) : ∃ n, P n ∧ ∀ m, m < n → ¬ P m := by
  refine Classical.byContradiction (fun g => ?_)
  obtain ⟨n, hn⟩ := h
  have key : ∀ m, ¬ P m := fun m => by
    induction m using Nat.strongRecOn with
    | ind m ih => exact fun hm => g ⟨m, hm, ih⟩
  exact key n hn
theorem prm_of {p : Nat} (h1 : 1 < p) (h : ∀ d, 1 < d → d < p → ¬ d ∣ p) : prm (p : Int) := by
  refine ⟨by omega, fun a b hab => ?_⟩
  by_cases ha : (p : Int) ∣ a
  · exact Or.inl ha
  · refine Or.inr ?_
    have hab' : p ∣ a.natAbs * b.natAbs := by
      rw [← Int.natAbs_mul]
      exact Int.ofNat_dvd_left.mp hab
    have ha' : ¬ p ∣ a.natAbs := fun c => ha (Int.ofNat_dvd_left.mpr c)
    have hc : Nat.Coprime p a.natAbs := by
      have g1 : Nat.gcd p a.natAbs ∣ p := Nat.gcd_dvd_left _ _
      have g2 : Nat.gcd p a.natAbs ∣ a.natAbs := Nat.gcd_dvd_right _ _
      have g3 : Nat.gcd p a.natAbs ≤ p := Nat.le_of_dvd (by omega) g1
      have g4 : 0 < Nat.gcd p a.natAbs := Nat.gcd_pos_of_pos_left _ (by omega)
      show Nat.gcd p a.natAbs = 1
      refine Classical.byContradiction (fun ne => ?_)
      by_cases e : Nat.gcd p a.natAbs = p
      · rw [e] at g2
        exact ha' g2
      · exact h _ (by omega) (by omega) g1
    exact Int.ofNat_dvd_left.mpr (hc.dvd_of_dvd_mul_left hab')
theorem prm_div {n : Nat} (h : 1 < n) : ∃ p : Int, prm p ∧ p ∣ (n : Int) := by
  obtain ⟨p, ⟨h1, h2⟩, h3⟩ := ex_min (P := fun d => 1 < d ∧ d ∣ n) ⟨n, h, Nat.dvd_refl n⟩
  exact ⟨p, prm_of h1 (fun d a b c => h3 d b ⟨a, Nat.dvd_trans c h2⟩), Int.ofNat_dvd.mpr h2⟩
theorem psum_dvd {p : Int} {f : Nat → Int} : ∀ {n : Nat}, (∀ i, i < n → p ∣ f i) → p ∣ psum f n
  | 0, _ => ⟨0, by show (0 : Int) = p * 0; rw [Int.mul_zero]⟩
  | n + 1, h => Int.dvd_add (psum_dvd (fun i hi => h i (by omega))) (h n (by omega))
/-- the last place that p does not divide -/
def mt (p : Int) (a : Pl) (n : Nat) : Prop := (¬ p ∣ a.1 n) ∧ ∀ i, n < i → p ∣ a.1 i
theorem mt_ex (p : Int) (a : Pl) : (∀ i, p ∣ a.1 i) ∨ ∃ n, mt p a n := by
  have key : ∀ n, (∀ i, n ≤ i → p ∣ a.1 i) → (∀ i, p ∣ a.1 i) ∨ ∃ n, mt p a n := by
    intro n
    induction n with
    | zero => intro h; exact Or.inl (fun i => h i (Nat.zero_le _))
    | succ n ih =>
      intro h
      by_cases e : p ∣ a.1 n
      · refine ih (fun i hi => ?_)
        by_cases e' : i = n
        · rw [e']; exact e
        · exact h i (by omega)
      · exact Or.inr ⟨n, e, h⟩
  obtain ⟨n, h⟩ := a.2
  exact key n (fun i hi => by rw [h i hi]; exact ⟨0, (Int.mul_zero p).symm⟩)
theorem mt_uniq {p : Int} {a : Pl} {n m : Nat} (h : mt p a n) (g : mt p a m) : n = m := by
  rcases Nat.lt_trichotomy n m with c | c | c
  · exact absurd (h.2 m c) g.1
  · exact c
  · exact absurd (g.2 n c) h.1
theorem mt_M {p : Int} (hp : prm p) {a b : Pl} {n m : Nat} (h : mt p a n) (g : mt p b m) : mt p (plM a b) (n + m) := by
  refine ⟨fun c => ?_, fun k hk => ?_⟩
  · have e := psum_out (f := fun i => a.1 i * b.1 (n + m - i)) (k := n) (n := n + m + 1) (by omega)
    have c' : p ∣ psum (fun i => a.1 i * b.1 (n + m - i)) (n + m + 1) := c
    have d : p ∣ psum (fun i => if i = n then 0 else a.1 i * b.1 (n + m - i)) (n + m + 1) := psum_dvd (fun i hi => by
      split
      · exact ⟨0, (Int.mul_zero p).symm⟩
      · rename_i ne
        rcases Nat.lt_or_ge n i with q | q
        · exact Int.dvd_mul_of_dvd_left (h.2 i q)
        · exact Int.dvd_mul_of_dvd_right (g.2 (n + m - i) (by omega)))
    rw [e] at c'
    have f := (Int.dvd_add_left d).mp c'
    rw [show n + m - n = m by omega] at f
    rcases hp.2 _ _ f with q | q
    · exact h.1 q
    · exact g.1 q
  · refine psum_dvd (fun i hi => ?_)
    rcases Nat.lt_or_ge n i with q | q
    · exact Int.dvd_mul_of_dvd_left (h.2 i q)
    · exact Int.dvd_mul_of_dvd_right (g.2 (k - i) (by omega))
theorem mt_cg {p : Int} {a b : Pl} {n : Nat} (h : cg p a b) (g : mt p a n) : mt p b n := by
  refine ⟨fun c => g.1 ?_, fun i hi => ?_⟩
  · have := cg_co h n
    have := Int.dvd_add this c
    rw [show a.1 n - b.1 n + b.1 n = a.1 n by omega] at this
    exact this
  · have h1 := cg_co h i
    have := Int.dvd_sub (g.2 i hi) h1
    rw [show a.1 i - (a.1 i - b.1 i) = b.1 i by omega] at this
    exact this
theorem mt_le {p : Int} {a : Pl} {n k : Nat} (h : mt p a n) (g : dl k a) : n < k := by
  rcases Nat.lt_or_ge n k with c | c
  · exact c
  · exact absurd ⟨0, by rw [g n c, Int.mul_zero]⟩ h.1
theorem gaussp {p : Int} (hp : prm p) {a b : Pl} (h : ∀ i, p ∣ (plM a b).1 i) : (∀ i, p ∣ a.1 i) ∨ ∀ i, p ∣ b.1 i := by
  rcases mt_ex p a with c | ⟨n, c⟩
  · exact Or.inl c
  · rcases mt_ex p b with d | ⟨m, d⟩
    · exact Or.inr d
    · exact absurd (h _) (mt_M hp c d).1
/-- no number but 1 and -1 divides all places -/
def prim (a : Pl) : Prop := ∀ d : Int, (∀ i, d ∣ a.1 i) → d.natAbs = 1
theorem prim_p {a : Pl} (h : prim a) {p : Int} (hp : prm p) : ¬ ∀ i, p ∣ a.1 i := fun c => by
  have := h p c
  have := hp.1
  omega
/-- what is primitive and divides a multiple by a number divides -/
theorem prim_div {G A : Pl} (hG : prim G) : ∀ (n : Nat) (N : Int) (q : Pl), N.natAbs = n → N ≠ 0 → (∀ x, N * ev A x = ev G x * ev q x) → ∃ q' : Pl, ∀ x, ev A x = ev G x * ev q' x := by
  intro n
  induction n using Nat.strongRecOn with
  | ind n ih =>
    intro N q hn hN h
    by_cases h1 : n = 1
    · have : N = 1 ∨ N = -1 := by omega
      rcases this with e | e
      · exact ⟨q, fun x => by have := h x; rw [e, Int.one_mul] at this; exact this⟩
      · exact ⟨plK (-1) q, fun x => by have := h x; rw [e] at this; rw [ev_K]; grind⟩
    · obtain ⟨p, hp, N', e⟩ := prm_div (n := n) (by omega)
      have pd : p ∣ N := by
        have : p ∣ (N.natAbs : Int) := ⟨N', by rw [hn]; exact e⟩
        exact Int.dvd_natAbs.mp this
      obtain ⟨N1, e1⟩ := pd
      have hq : ∀ i, p ∣ q.1 i := by
        have e2 : plM G q = plK N A := ev_ext (fun x => by rw [ev_M, ev_K]; exact (h x).symm)
        rcases gaussp hp (a := G) (b := q) (fun i => by
          rw [e2]
          show p ∣ N * A.1 i
          rw [e1]
          exact ⟨N1 * A.1 i, by rw [Int.mul_assoc]⟩) with c | c
        · exact absurd c (prim_p hG hp)
        · exact c
      have hq2 : ∃ q2 : Pl, ∀ x, ev q x = p * ev q2 x := by
        obtain ⟨r, hr⟩ := cg_of (m := p) (a := q) (b := plX 0 0) (fun i => by
          show p ∣ q.1 i - (if i = 0 then 0 else 0)
          rw [show (if i = 0 then (0 : Int) else 0) = 0 by split <;> rfl, Int.sub_zero]
          exact hq i)
        exact ⟨r, fun x => by rw [hr x, ev_X]; omega⟩
      obtain ⟨q2, h2⟩ := hq2
      have hp0 := hp.1
      refine ih N1.natAbs ?_ N1 q2 rfl (fun c => hN (by rw [e1, c, Int.mul_zero])) (fun x => ?_)
      · have : N.natAbs = p.natAbs * N1.natAbs := by rw [e1, Int.natAbs_mul]
        have h3 : N1.natAbs ≠ 0 := fun c => hN (by rw [e1, Int.natAbs_eq_zero.mp c, Int.mul_zero])
        have h4 : 2 * N1.natAbs ≤ p.natAbs * N1.natAbs := Nat.mul_le_mul_right _ (by omega)
        omega
      · have h5 := h x
        rw [h2 x, e1] at h5
        refine Int.eq_of_mul_eq_mul_left (a := p) (by omega) ?_
        grind
/-- division with a number before it -/
theorem pdivide {W : Pl} {n : Nat} (hW : dl (n + 1) W) : ∀ (m : Nat) (a : Pl), dl m a → ∃ (k : Nat) (q r : Pl), dl n r ∧ ∀ x, W.1 n ^ k * ev a x = ev W x * ev q x + ev r x
  | 0, a, h => ⟨0, plX 0 0, a, fun i _ => h i (Nat.zero_le _), fun x => by rw [ev_X, Int.pow_zero]; grind⟩
  | m + 1, a, h => by
    by_cases c : m + 1 ≤ n
    · exact ⟨0, plX 0 0, a, dl_mono c h, fun x => by rw [ev_X, Int.pow_zero]; grind⟩
    · have h2 : dl m (plS (plK (W.1 n) a) (plM (plX (a.1 m) (m - n)) W)) := fun i hi => by
        show W.1 n * a.1 i - pmul (pone (a.1 m) (m - n)) W.1 i = 0
        rw [pmul_one, if_pos (by omega)]
        by_cases e : i = m
        · rw [e, show m - (m - n) = n by omega]
          grind
        · rw [h i (by omega), hW (i - (m - n)) (by omega)]
          omega
      obtain ⟨k, q, r, h3, h4⟩ := pdivide hW m _ h2
      refine ⟨k + 1, plA q (plX (W.1 n ^ k * a.1 m) (m - n)), r, h3, fun x => ?_⟩
      have h5 := h4 x
      rw [ev_S, ev_K, ev_M, ev_X] at h5
      rw [ev_A, ev_X, Int.pow_succ]
      grind
theorem ediv_1 {W : Pl} {n : Nat} (hW : dl (n + 1) W) (h1 : W.1 n = 1) (a : Pl) : ∃ q r : Pl, dl n r ∧ ∀ x, ev a x = ev W x * ev q x + ev r x := by
  obtain ⟨m, h⟩ := a.2
  obtain ⟨k, q, r, h2, h3⟩ := pdivide hW m a h
  exact ⟨q, r, h2, fun x => by have := h3 x; rw [h1, Int.one_pow, Int.one_mul] at this; exact this⟩
/-- what is not 0 is a number times a primitive one -/
theorem prim_ex (W : Pl) : ∀ (n i : Nat), (W.1 i).natAbs = n → W.1 i ≠ 0 → ∃ (w : Int) (G : Pl), prim G ∧ w ≠ 0 ∧ ∀ x, ev W x = w * ev G x := by
  intro n i hn h0
  have key : ∀ (n : Nat) (W : Pl), (W.1 i).natAbs = n → W.1 i ≠ 0 → ∃ (w : Int) (G : Pl), prim G ∧ w ≠ 0 ∧ ∀ x, ev W x = w * ev G x := by
    intro n
    induction n using Nat.strongRecOn with
    | ind n ih =>
      intro W hn h0
      by_cases c : prim W
      · exact ⟨1, W, c, by decide, fun x => by rw [Int.one_mul]⟩
      · obtain ⟨d, hd⟩ := Classical.not_forall.mp c
        obtain ⟨hd1, hd2⟩ := Classical.not_imp.mp hd
        have d0 : d ≠ 0 := fun e => h0 (by obtain ⟨y, hy⟩ := hd1 i; rw [hy, e, Int.zero_mul])
        obtain ⟨r, hr⟩ := cg_of (m := d) (a := W) (b := plX 0 0) (fun j => by
          show d ∣ W.1 j - (if j = 0 then 0 else 0)
          rw [show (if j = 0 then (0 : Int) else 0) = 0 by split <;> rfl, Int.sub_zero]
          exact hd1 j)
        have hr2 : ∀ x, ev W x = d * ev r x := fun x => by rw [hr x, ev_X]; omega
        have e1 : W = plK d r := ev_ext (fun x => by rw [ev_K]; exact hr2 x)
        have e2 : W.1 i = d * r.1 i := congrArg (fun c : Pl => c.1 i) e1
        have r0 : r.1 i ≠ 0 := fun e => h0 (by rw [e2, e, Int.mul_zero])
        have lt : (r.1 i).natAbs < n := by
          have : (W.1 i).natAbs = d.natAbs * (r.1 i).natAbs := by rw [e2, Int.natAbs_mul]
          have h4 : 2 * (r.1 i).natAbs ≤ d.natAbs * (r.1 i).natAbs := Nat.mul_le_mul_right _ (by omega)
          omega
        obtain ⟨w, G, g1, g2, g3⟩ := ih _ lt r rfl r0
        exact ⟨d * w, G, g1, fun e => by rcases Int.mul_eq_zero.mp e with e | e; exact d0 e; exact g2 e, fun x => by rw [hr2 x, g3 x, Int.mul_assoc]⟩
  exact key n W hn h0
/-- the greatest common divisor, primitive -/
theorem bezout {A B : Pl} (h0 : ∃ i, A.1 i ≠ 0) : ∃ (G a b u v : Pl) (c : Int), prim G ∧ c ≠ 0 ∧ (∀ x, ev A x = ev G x * ev a x) ∧ (∀ x, ev B x = ev G x * ev b x) ∧ ∀ x, ev u x * ev A x + ev v x * ev B x = c * ev G x := by
  let P : Nat → Prop := fun n => ∃ (W u v : Pl), W.1 n ≠ 0 ∧ dl (n + 1) W ∧ ∀ x, ev u x * ev A x + ev v x * ev B x = ev W x
  have hP : ∃ n, P n := by
    rcases pl_top A with c | ⟨n, c1, c2⟩
    · obtain ⟨i, hi⟩ := h0
      exact absurd (c i) hi
    · exact ⟨n, A, plX 1 0, plX 0 0, c1, c2, fun x => by rw [ev_X, ev_X, Int.pow_zero]; omega⟩
  obtain ⟨n, ⟨W, u, v, w1, w2, w3⟩, hmin⟩ := ex_min hP
  obtain ⟨w, G, g1, g2, g3⟩ := prim_ex W _ n rfl w1
  have key : ∀ F s t : Pl, (∀ x, ev s x * ev A x + ev t x * ev B x = ev F x) → ∃ f : Pl, ∀ x, ev F x = ev G x * ev f x := fun F s t hF => by
    obtain ⟨m, hm⟩ := F.2
    obtain ⟨k, q, r, r1, r2⟩ := pdivide w2 m F hm
    have r0 : ∀ i, r.1 i = 0 := by
      rcases pl_top r with c | ⟨j, c1, c2⟩
      · exact c
      · exfalso
        refine hmin j ?_ ⟨r, plS (plK (W.1 n ^ k) s) (plM q u), plS (plK (W.1 n ^ k) t) (plM q v), c1, c2, fun x => ?_⟩
        · rcases Nat.lt_or_ge j n with g | g
          · exact g
          · exact absurd (r1 j g) c1
        · rw [ev_S, ev_S, ev_K, ev_K, ev_M, ev_M]
          have a1 := r2 x
          have a2 := hF x
          have a3 := w3 x
          grind
    refine prim_div g1 _ (W.1 n ^ k) (plK w q) rfl (Int.pow_ne_zero w1) (fun x => ?_)
    have a1 := r2 x
    rw [ev_0 r0 x] at a1
    rw [ev_K, a1, g3 x]
    grind
  obtain ⟨a, ha⟩ := key A (plX 1 0) (plX 0 0) (fun x => by rw [ev_X, ev_X, Int.pow_zero]; omega)
  obtain ⟨b, hb⟩ := key B (plX 0 0) (plX 1 0) (fun x => by rw [ev_X, ev_X, Int.pow_zero]; omega)
  exact ⟨G, a, b, u, v, w, g1, g2, ha, hb, fun x => by rw [w3 x, g3 x]⟩
