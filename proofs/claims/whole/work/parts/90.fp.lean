/-! Polynomials modulo a prime. -/
def dvp (p : Int) (a b : Pl) : Prop := ∃ q, cg p b (plM a q)
def mon (a : Pl) (n : Nat) : Prop := dl (n + 1) a ∧ a.1 n = 1
def zr (p : Int) (a : Pl) : Prop := ∀ i, p ∣ a.1 i
theorem zr_cg {p : Int} {a b : Pl} (h : cg p a b) (g : zr p b) : zr p a := fun i => by
  have := Int.dvd_add (cg_co h i) (g i)
  rw [show a.1 i - b.1 i + b.1 i = a.1 i by omega] at this
  exact this
theorem zr_ev {p : Int} {a : Pl} (h : zr p a) : ∃ r : Pl, ∀ x, ev a x = p * ev r x := by
  obtain ⟨r, hr⟩ := cg_of (m := p) (a := a) (b := plX 0 0) (fun i => by
    show p ∣ a.1 i - (if i = 0 then 0 else 0)
    rw [show (if i = 0 then (0 : Int) else 0) = 0 by split <;> rfl, Int.sub_zero]
    exact h i)
  exact ⟨r, fun x => by rw [hr x, ev_X]; omega⟩
theorem zr_of {p : Int} {a r : Pl} (h : ∀ x, ev a x = p * ev r x) : zr p a := by
  have e : a = plK p r := ev_ext (fun x => by rw [ev_K]; exact h x)
  intro i
  rw [e]
  exact ⟨r.1 i, rfl⟩
theorem zr_M {p : Int} {a b : Pl} (h : zr p b) : zr p (plM a b) := fun i => psum_dvd (fun j _ => Int.dvd_mul_of_dvd_right (h (i - j)))
theorem cg_zr {p : Int} {a b : Pl} (h : zr p (plS a b)) : cg p a b := cg_of h
theorem mon_mt {p : Int} (hp : prm p) {a : Pl} {n : Nat} (h : mon a n) : mt p a n := mt_of (by rw [h.2]; exact prm_1 hp) h.1
theorem dvp_refl {p : Int} {a : Pl} : dvp p a a := ⟨plX 1 0, cg_eq (fun x => by rw [ev_M, ev_X, Int.pow_zero]; grind)⟩
theorem dvp_trans {p : Int} {a b c : Pl} (h : dvp p a b) (g : dvp p b c) : dvp p a c := by
  obtain ⟨q, h⟩ := h
  obtain ⟨r, g⟩ := g
  exact ⟨plM q r, cg_trans g (cg_trans (cg_M h cg_refl) (cg_eq (fun x => by rw [ev_M, ev_M, ev_M, ev_M]; grind)))⟩
theorem dvp_cg {p : Int} {a b c : Pl} (h : dvp p a b) (g : cg p c b) : dvp p a c := by
  obtain ⟨q, h⟩ := h
  exact ⟨q, cg_trans g h⟩
theorem dvp_cgl {p : Int} {a b c : Pl} (h : dvp p a b) (g : cg p c a) : dvp p c b := by
  obtain ⟨q, h⟩ := h
  exact ⟨q, cg_trans h (cg_M (cg_symm g) cg_refl)⟩
theorem dvp_A {p : Int} {a b c : Pl} (h : dvp p a b) (g : dvp p a c) : dvp p a (plA b c) := by
  obtain ⟨q, h⟩ := h
  obtain ⟨r, g⟩ := g
  exact ⟨plA q r, cg_trans (cg_A h g) (cg_eq (fun x => by rw [ev_A, ev_M, ev_M, ev_M, ev_A]; grind))⟩
theorem dvp_S {p : Int} {a b c : Pl} (h : dvp p a b) (g : dvp p a c) : dvp p a (plS b c) := by
  obtain ⟨q, h⟩ := h
  obtain ⟨r, g⟩ := g
  exact ⟨plS q r, cg_trans (cg_S h g) (cg_eq (fun x => by rw [ev_S, ev_M, ev_M, ev_M, ev_S]; grind))⟩
theorem dvp_Mr {p : Int} {a b c : Pl} (h : dvp p a b) : dvp p a (plM b c) := by
  obtain ⟨q, h⟩ := h
  exact ⟨plM q c, cg_trans (cg_M h cg_refl) (cg_eq (fun x => by rw [ev_M, ev_M, ev_M, ev_M]; grind))⟩
theorem dvp_Ml {p : Int} {a b c : Pl} (h : dvp p a b) : dvp p a (plM c b) := by
  obtain ⟨q, h⟩ := h
  exact ⟨plM c q, cg_trans (cg_M cg_refl h) (cg_eq (fun x => by rw [ev_M, ev_M, ev_M, ev_M]; grind))⟩
theorem dvp_self {p : Int} {a b : Pl} : dvp p a (plM a b) := ⟨b, cg_refl⟩
theorem dvp_0 {p : Int} {a b : Pl} (h : zr p b) : dvp p a b := ⟨plX 0 0, by
  obtain ⟨r, hr⟩ := zr_ev h
  exact ⟨r, fun x => by rw [hr x, ev_M, ev_X]; grind⟩⟩
/-- what a monic one of degree n divides is 0 where its degree is less -/
theorem dvp_deg {p : Int} (hp : prm p) {a b : Pl} {n : Nat} (ha : mon a n) (h : dvp p a b) (hb : dl n b) : zr p b := by
  obtain ⟨q, h⟩ := h
  rcases mt_ex p q with c | ⟨t, c⟩
  · exact zr_cg h (zr_M c)
  · have h1 := mt_cg (cg_symm h) (mt_M hp (mon_mt hp ha) c)
    have := mt_le h1 hb
    omega
theorem dvp_mt {p : Int} (hp : prm p) {a b : Pl} {n m : Nat} (ha : mt p a n) (h : dvp p a b) (hb : mt p b m) : n ≤ m := by
  obtain ⟨q, h⟩ := h
  obtain ⟨t, _, ht⟩ := mt_part hp h hb ha
  omega
theorem inv_ex {p : Int} (hp : prm p) {c : Int} (hc : ¬ p ∣ c) : ∃ s : Int, p ∣ c * s - 1 := by
  obtain ⟨q, hq⟩ : ∃ q : Nat, p = ((q + 2 : Nat) : Int) := ⟨(p - 2).toNat, by have := hp.1; omega⟩
  rw [hq] at hp hc ⊢
  exact ⟨_, fermat_inv hp hc⟩
/-- made monic -/
theorem mk_mon {p : Int} (hp : prm p) {a : Pl} {n : Nat} (h : mt p a n) : ∃ (s : Int) (D : Pl), mon D n ∧ cg p D (plK s a) ∧ cg p a (plK (a.1 n) D) := by
  obtain ⟨s, hs⟩ := inv_ex hp h.1
  have e1 : cg p (⟨fun i => if i = n then 1 else if i < n then s * a.1 i else 0, n + 1, fun i hi => by show (if i = n then 1 else if i < n then s * a.1 i else 0) = 0; rw [if_neg (by omega), if_neg (by omega)]⟩ : Pl) (plK s a) := cg_of (fun i => by
    show p ∣ (if i = n then 1 else if i < n then s * a.1 i else 0) - s * a.1 i
    by_cases e : i = n
    · rw [if_pos e, e]
      obtain ⟨y, hy⟩ := hs
      exact ⟨-y, by grind⟩
    · rw [if_neg e]
      by_cases f : i < n
      · rw [if_pos f, Int.sub_self]; exact ⟨0, (Int.mul_zero p).symm⟩
      · rw [if_neg f, Int.zero_sub]
        exact Int.dvd_neg.mpr (Int.dvd_mul_of_dvd_right (h.2 i (by omega))))
  refine ⟨s, _, ⟨fun i hi => ?_, ?_⟩, e1, ?_⟩
  · show (if i = n then 1 else if i < n then s * a.1 i else 0) = 0
    rw [if_neg (by omega), if_neg (by omega)]
  · show (if n = n then 1 else if n < n then s * a.1 n else 0) = 1
    rw [if_pos rfl]
  · refine cg_symm (cg_trans (cg_K e1) ?_)
    obtain ⟨y, hy⟩ := hs
    exact ⟨plK y a, fun x => by rw [ev_K, ev_K, ev_K]; grind⟩
theorem bez_p {p : Int} (hp : prm p) {A B : Pl} (h0 : ¬ zr p A) : ∃ (D : Pl) (d : Nat), eg p A B D d := by
  let P : Nat → Prop := fun n => ∃ (W u v : Pl), mt p W n ∧ cg p W (plA (plM u A) (plM v B))
  have hP : ∃ n, P n := by
    rcases mt_ex p A with c | ⟨n, c⟩
    · exact absurd c h0
    · exact ⟨n, A, plX 1 0, plX 0 0, c, cg_eq (fun x => by rw [ev_A, ev_M, ev_M, ev_X, ev_X, Int.pow_zero]; grind)⟩
  obtain ⟨n, ⟨W, u, v, w1, w2⟩, hmin⟩ := ex_min hP
  obtain ⟨s, D, d1, d2, d3⟩ := mk_mon hp w1
  have hD : cg p D (plA (plM (plK s u) A) (plM (plK s v) B)) := cg_trans d2 (cg_trans (cg_K w2) (cg_eq (fun x => by
    rw [ev_K, ev_A, ev_M, ev_M, ev_A, ev_M, ev_M, ev_K, ev_K]; grind)))
  have key : ∀ F e f : Pl, cg p F (plA (plM e A) (plM f B)) → ∃ q, cg p F (plM D q) := fun F e f hF => by
    obtain ⟨q, r, r1, r2⟩ := ediv_1 d1.1 d1.2 F
    have r3 : cg p r (plA (plM (plS e (plM q (plK s u))) A) (plM (plS f (plM q (plK s v))) B)) := by
      have e1 : cg p r (plS F (plM D q)) := cg_eq (fun x => by rw [ev_S, ev_M, r2 x]; omega)
      refine cg_trans e1 (cg_trans (cg_S hF (cg_M hD cg_refl)) (cg_eq (fun x => ?_)))
      rw [ev_S, ev_A, ev_M, ev_M, ev_M, ev_A, ev_M, ev_M, ev_A, ev_M, ev_M, ev_S, ev_S, ev_M, ev_M]
      grind
    rcases mt_ex p r with c | ⟨j, c⟩
    · obtain ⟨y, hy⟩ := zr_ev c
      exact ⟨q, y, fun x => by rw [r2 x, ev_M, hy x]⟩
    · exact absurd ⟨r, _, _, c, r3⟩ (hmin j (mt_le c r1))
  exact ⟨D, n, d1.1, d1.2, ⟨_, _, hD⟩, key A (plX 1 0) (plX 0 0) (cg_eq (fun x => by rw [ev_A, ev_M, ev_M, ev_X, ev_X, Int.pow_zero]; grind)), key B (plX 0 0) (plX 1 0) (cg_eq (fun x => by rw [ev_A, ev_M, ev_M, ev_X, ev_X, Int.pow_zero]; grind))⟩
/-! coprime -/
def cop (p : Int) (a b : Pl) : Prop := ∃ u v, cg p (plX 1 0) (plA (plM u a) (plM v b))
theorem cop_symm {p : Int} {a b : Pl} (h : cop p a b) : cop p b a := by
  obtain ⟨u, v, h⟩ := h
  exact ⟨v, u, cg_trans h (cg_eq (fun x => by rw [ev_A, ev_A]; omega))⟩
theorem cop_dvp {p : Int} {a b c : Pl} (h : cop p a b) (g : dvp p a (plM b c)) : dvp p a c := by
  obtain ⟨u, v, h⟩ := h
  have h1 : cg p c (plA (plM a (plM u c)) (plM v (plM b c))) := by
    refine cg_trans (cg_eq (b := plM (plX 1 0) c) (fun x => by rw [ev_M, ev_X, Int.pow_zero]; grind)) (cg_trans (cg_M h cg_refl) (cg_eq (fun x => ?_)))
    rw [ev_M, ev_A, ev_A, ev_M, ev_M, ev_M, ev_M, ev_M, ev_M]
    grind
  exact dvp_cg (dvp_A dvp_self (dvp_Ml g)) h1
theorem cop_M {p : Int} {a b c : Pl} (h : cop p a b) (g : cop p a c) : cop p a (plM b c) := by
  obtain ⟨u, v, h⟩ := h
  obtain ⟨s, t, g⟩ := g
  refine ⟨plA (plM u (plA (plM s a) (plM t c))) (plM (plM v b) s), plM v t, ?_⟩
  refine cg_trans (cg_eq (b := plM (plX 1 0) (plX 1 0)) (fun x => by rw [ev_M, ev_X, Int.pow_zero]; omega)) (cg_trans (cg_M h g) (cg_eq (fun x => ?_)))
  simp only [ev_A, ev_M]
  grind
/-- two coprime ones that divide: so does their product -/
theorem cop_mul {p : Int} {a b c : Pl} (h : cop p a b) (ha : dvp p a c) (hb : dvp p b c) : dvp p (plM a b) c := by
  obtain ⟨q, hq⟩ := ha
  obtain ⟨r, hr⟩ := cop_dvp (cop_symm h) (dvp_cg hb (cg_symm hq))
  exact ⟨r, cg_trans hq (cg_trans (cg_M cg_refl hr) (cg_eq (fun x => by simp only [ev_M]; grind)))⟩
theorem crt {p : Int} {a b : Pl} (h : cop p a b) (r s : Pl) : ∃ v, dvp p a (plS v r) ∧ dvp p b (plS v s) := by
  obtain ⟨e, f, e2⟩ := h
  obtain ⟨z, e3⟩ := e2
  refine ⟨plA (plM (plM e a) s) (plM (plM f b) r), ⟨plM e (plS s r), ?_⟩, ⟨plM f (plS r s), ?_⟩⟩
  · refine ⟨plM (plK (-1) z) r, fun x => ?_⟩
    have := e3 x
    simp only [ev_A, ev_M, ev_S, ev_K, ev_X] at this ⊢
    rw [Int.pow_zero] at this
    grind
  · refine ⟨plM (plK (-1) z) s, fun x => ?_⟩
    have := e3 x
    simp only [ev_A, ev_M, ev_S, ev_K, ev_X] at this ⊢
    rw [Int.pow_zero] at this
    grind
/-- what cannot be taken apart -/
def irr (p : Int) (q : Pl) (n : Nat) : Prop := mon q n ∧ 1 ≤ n ∧ ∀ a m, mon a m → 1 ≤ m → m < n → ¬ dvp p a q
theorem mon_1 {D : Pl} (h : mon D 0) : D = plX 1 0 := pl_ext (fun i => by
  show D.1 i = if i = 0 then 1 else 0
  by_cases e : i = 0
  · rw [if_pos e, e]; exact h.2
  · rw [if_neg e]; exact h.1 i (by omega))
theorem mon_cg {p : Int} (hp : prm p) {a b : Pl} {n : Nat} (ha : mon a n) (hb : mon b n) (h : dvp p a b) : cg p b a := by
  obtain ⟨q, h⟩ := h
  obtain ⟨t, t1, t2⟩ := mt_part hp h (mon_mt hp hb) (mon_mt hp ha)
  have t0 : t = 0 := by omega
  subst t0
  have h4 : cg p q (plX (q.1 0) 0) := cg_of (fun i => by
    show p ∣ q.1 i - (if i = 0 then q.1 0 else 0)
    by_cases e : i = 0
    · rw [if_pos e, e, Int.sub_self]; exact ⟨0, (Int.mul_zero p).symm⟩
    · rw [if_neg e, Int.sub_zero]; exact t1.2 i (by omega))
  have h5 : cg p b (plK (q.1 0) a) := cg_trans h (cg_trans (cg_M cg_refl h4) (cg_eq (fun x => by rw [ev_M, ev_X, ev_K, Int.pow_zero]; grind)))
  have h6 := cg_co h5 n
  have h7 : p ∣ b.1 n - q.1 0 * a.1 n := h6
  rw [hb.2, ha.2, Int.mul_one] at h7
  obtain ⟨y, hy⟩ := h7
  refine cg_trans h5 ⟨plK (-y) a, fun x => ?_⟩
  rw [ev_K, ev_K]
  grind
theorem irr_cop {p : Int} (hp : prm p) {q a : Pl} {n : Nat} (h : irr p q n) : cop p q a ∨ dvp p q a := by
  obtain ⟨h1, h2, h3⟩ := h
  have q0 : ¬ zr p q := fun c => (mon_mt hp h1).1 (c n)
  obtain ⟨D, d, e1, e2, ⟨u, v, e3⟩, ⟨s, e4⟩, ⟨t, e5⟩⟩ := bez_p hp (B := a) q0
  have hd : d ≤ n := dvp_mt hp (mon_mt hp ⟨e1, e2⟩) ⟨s, e4⟩ (mon_mt hp h1)
  by_cases d0 : d = 0
  · subst d0
    rw [mon_1 ⟨e1, e2⟩] at e3
    exact Or.inl ⟨u, v, e3⟩
  · by_cases dn : d = n
    · subst dn
      refine Or.inr (dvp_cgl ⟨t, e5⟩ (mon_cg hp ⟨e1, e2⟩ h1 ⟨s, e4⟩))
    · exact absurd ⟨s, e4⟩ (h3 D d ⟨e1, e2⟩ (by omega) (by omega))
theorem irr_prime {p : Int} (hp : prm p) {q a b : Pl} {n : Nat} (h : irr p q n) (g : dvp p q (plM a b)) : dvp p q a ∨ dvp p q b := by
  rcases irr_cop hp (a := a) h with c | c
  · exact Or.inr (cop_dvp c g)
  · exact Or.inl c
/-- some part that cannot be taken apart divides -/
theorem irr_ex {p : Int} (hp : prm p) {a : Pl} {m : Nat} (h : mt p a m) (hm : 1 ≤ m) : ∃ q n, irr p q n ∧ dvp p q a := by
  obtain ⟨n, ⟨h1, q, h2, h3⟩, h4⟩ := ex_min (P := fun n => 1 ≤ n ∧ ∃ q, mon q n ∧ dvp p q a) (by
    obtain ⟨s, D, d1, d2, d3⟩ := mk_mon hp h
    exact ⟨m, hm, D, d1, plX (a.1 m) 0, cg_trans d3 (cg_eq (fun x => by rw [ev_K, ev_M, ev_X, Int.pow_zero]; grind))⟩)
  exact ⟨q, n, ⟨h2, h1, fun b k hb hk hkn hd => h4 k hkn ⟨hk, b, hb, dvp_trans hd h3⟩⟩, h3⟩
