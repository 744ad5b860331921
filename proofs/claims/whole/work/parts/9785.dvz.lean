/-! Divisors over the whole numbers; factors that can't be taken apart. -/
def dvz (a b : Pl) : Prop := ∃ q : Pl, ∀ x, ev b x = ev a x * ev q x
theorem dvz_refl {a : Pl} : dvz a a := ⟨plX 1 0, fun x => by rw [ev_X, Int.pow_zero, Int.one_mul, Int.mul_one]⟩
theorem dvz_trans {a b c : Pl} (h : dvz a b) (g : dvz b c) : dvz a c := by
  obtain ⟨q, hq⟩ := h
  obtain ⟨r, hr⟩ := g
  exact ⟨plM q r, fun x => by rw [hr x, hq x, ev_M, Int.mul_assoc]⟩
theorem dvz_l {a b q : Pl} (h : ∀ x, ev b x = ev a x * ev q x) : dvz a b := ⟨q, h⟩
theorem dvz_r {a b q : Pl} (h : ∀ x, ev b x = ev a x * ev q x) : dvz q b := ⟨a, fun x => by rw [h x, Int.mul_comm]⟩
theorem dvz_top {a q b : Pl} {n : Nat} (b1 : b.1 n ≠ 0) (b2 : dl (n + 1) b) (e : ∀ x, ev b x = ev a x * ev q x) : ∃ k m, k + m = n ∧ a.1 k ≠ 0 ∧ dl (k + 1) a ∧ q.1 m ≠ 0 ∧ dl (m + 1) q ∧ a.1 k * q.1 m = b.1 n := by
  have eb : b = plM a q := ev_ext (fun x => by rw [ev_M]; exact e x)
  rcases pl_top a with z | ⟨k, k1, k2⟩
  · exfalso
    have : b.1 n = 0 := by
      rw [eb]
      exact pmul_z z n
    exact b1 this
  · rcases pl_top q with z | ⟨m, m1, m2⟩
    · exfalso
      have : b.1 n = 0 := by
        rw [eb]
        show pmul a.1 q.1 n = 0
        rw [pmul_comm]
        exact pmul_z z n
      exact b1 this
    · have t := top_M k1 k2 m1 m2
      have tt := plM_top k2 m2
      rw [← eb] at t tt
      have hk := top_u t.1 t.2 b1 b2
      exact ⟨k, m, hk, k1, k2, m1, m2, by rw [← tt, hk]⟩
theorem prim_dvz {a b : Pl} (h : dvz a b) (hb : prim b) : prim a := fun d hd => by
  obtain ⟨q, hq⟩ := h
  obtain ⟨r, hr⟩ := zr_ev (p := d) (a := a) hd
  exact hb d (zr_of (p := d) (a := b) (r := plM r q) (fun x => by rw [hq x, hr x, ev_M, Int.mul_assoc]))
theorem pl_0 {a : Pl} (h : dl 1 a) (x : Int) : ev a x = a.1 0 := by
  rw [ev_of h]
  show 0 + a.1 0 * x ^ 0 = _
  rw [Int.pow_zero, Int.mul_one, Int.zero_add]
theorem prim_1 {a : Pl} (h : prim a) (d : dl 1 a) : a.1 0 = 1 ∨ a.1 0 = -1 := by
  have := h (a.1 0) (fun i => by
    by_cases c : i = 0
    · rw [c]; exact ⟨1, (Int.mul_one _).symm⟩
    · rw [d i (by omega)]; exact ⟨0, (Int.mul_zero _).symm⟩)
  omega
def irz (g : Pl) (d : Nat) : Prop := prim g ∧ 0 < g.1 d ∧ dl (d + 1) g ∧ 1 ≤ d ∧ ∀ a k, dvz a g → a.1 k ≠ 0 → dl (k + 1) a → k = 0 ∨ k = d
theorem plK_dvz {a b : Pl} {c : Int} (hc : c = 1 ∨ c = -1) (h : dvz a b) : dvz (plK c a) b := by
  obtain ⟨q, hq⟩ := h
  refine ⟨plK c q, fun x => ?_⟩
  rw [hq x, ev_K, ev_K]
  rcases hc with e | e <;> rw [e] <;> grind
/-- with a positive leading number -/
theorem dvz_pos {a b : Pl} {k : Nat} (h : dvz a b) (hb : prim b) (a1 : a.1 k ≠ 0) (a2 : dl (k + 1) a) : ∃ a' : Pl, prim a' ∧ 0 < a'.1 k ∧ dl (k + 1) a' ∧ dvz a' b ∧ dvz a' a := by
  rcases Int.lt_or_le 0 (a.1 k) with c | c
  · exact ⟨a, prim_dvz h hb, c, a2, h, dvz_refl⟩
  · refine ⟨plK (-1) a, prim_dvz (plK_dvz (Or.inr rfl) h) hb, ?_, dl_K a2, plK_dvz (Or.inr rfl) h, plK_dvz (Or.inr rfl) dvz_refl⟩
    show 0 < -1 * a.1 k
    omega
theorem irz_prime {F a b : Pl} {d : Nat} (hF : irz F d) (h : dvz F (plM a b)) : dvz F a ∨ dvz F b := by
  obtain ⟨f1, f2, f3, f4, f5⟩ := hF
  obtain ⟨G, s, t, u, v, c, g1, g2, g3, g4, g5⟩ := bezout (A := F) (B := a) ⟨d, by omega⟩
  obtain ⟨k, m, km, k1, k2, m1, m2, _⟩ := dvz_top (by omega) f3 g3
  rcases f5 G k ⟨s, g3⟩ k1 k2 with e | e
  · right
    subst e
    have hG := prim_1 g1 k2
    obtain ⟨w, hw⟩ := h
    refine prim_div f1 _ (c * G.1 0) (plA (plM u b) (plM v w)) rfl ?_ (fun x => ?_)
    · rcases hG with e | e <;> rw [e] <;> omega
    · have h1 := g5 x
      have h2 := hw x
      rw [pl_0 k2] at h1
      rw [ev_M] at h2
      rw [ev_A, ev_M, ev_M, ← h1]
      grind
  · left
    have m0 : m = 0 := by omega
    subst m0
    have hs := prim_1 (prim_dvz (dvz_r g3) f1) m2
    refine ⟨plK (s.1 0) t, fun x => ?_⟩
    have h1 := g3 x
    have h2 := g4 x
    rw [pl_0 m2] at h1
    rw [ev_K, h2, h1]
    rcases hs with e | e <;> rw [e] <;> grind
theorem irz_eq {F G : Pl} {d e : Nat} (hF : irz F d) (hG : irz G e) (h : dvz F G) : F = G := by
  obtain ⟨f1, f2, f3, f4, f5⟩ := hF
  obtain ⟨g1, g2, g3, g4, g5⟩ := hG
  have hde : d = e := by
    rcases g5 F d h (by omega) f3 with x | x
    · omega
    · exact x
  obtain ⟨q, hq⟩ := h
  obtain ⟨k, m, km, k1, k2, m1, m2, kk⟩ := dvz_top (by omega) g3 hq
  have hk := top_u k1 k2 (by omega) f3
  have m0 : m = 0 := by omega
  subst m0 hk
  have hs := prim_1 (prim_dvz (dvz_r hq) g1) m2
  have h1 : q.1 0 = 1 := by
    rcases hs with x | x
    · exact x
    · rw [x] at kk
      rw [hde] at f2 kk
      omega
  refine ev_ext (fun x => ?_)
  rw [hq x, pl_0 m2, h1, Int.mul_one]
theorem irz_deg {F : Pl} {d e : Nat} (h : irz F d) (g : irz F e) : d = e := top_u (by have := h.2.1; omega) h.2.2.1 (by have := g.2.1; omega) g.2.2.1
theorem irz_nz {F : Pl} {d : Nat} (h : irz F d) : ∃ i, F.1 i ≠ 0 := ⟨d, by have := h.2.1; omega⟩
/-- how often a factor divides -/
def mlt (F W : Pl) (e : Nat) : Prop := ∃ q : Pl, (∀ x, ev W x = ev F x ^ e * ev q x) ∧ ¬ dvz F q
theorem mlt_le {F W : Pl} {e e' : Nat} {q' : Pl} (hF : ∃ i, F.1 i ≠ 0) (h : mlt F W e) (g : ∀ x, ev W x = ev F x ^ e' * ev q' x) : e' ≤ e := by
  obtain ⟨q, h1, h2⟩ := h
  refine Nat.not_lt.mp (fun c => h2 ?_)
  obtain ⟨t, rfl⟩ : ∃ t, e' = e + t + 1 := ⟨e' - e - 1, by omega⟩
  have key : ∀ n, (∀ x, ev F x ^ n * ev q x = ev F x ^ n * (ev F x ^ (t + 1) * ev q' x)) → ∀ x, ev q x = ev F x ^ (t + 1) * ev q' x := by
    intro n
    induction n with
    | zero => intro hh x; have := hh x; rw [Int.pow_zero, Int.one_mul, Int.one_mul] at this; exact this
    | succ n ih =>
      intro hh
      refine ih (fun x => ?_)
      have := pl_eqc (G := F) (w := plM (plP F n) q) (z := plM (plP F n) (plM (plP F (t + 1)) q')) hF (fun x => by
        rw [ev_M, ev_M, ev_M, ev_P, ev_P]
        have := hh x
        rw [Int.pow_succ] at this
        grind) x
      rw [ev_M, ev_M, ev_M, ev_P, ev_P] at this
      exact this
  have h3 := key e (fun x => by
    rw [← h1 x, g x, ← Int.mul_assoc, ← Int.pow_add, Nat.add_assoc])
  exact ⟨plM (plP F t) q', fun x => by rw [h3 x, ev_M, ev_P, Int.pow_succ]; grind⟩
theorem mlt_uniq {F W : Pl} {e e' : Nat} (hF : ∃ i, F.1 i ≠ 0) (h : mlt F W e) (g : mlt F W e') : e = e' := by
  obtain ⟨q, h1, _⟩ := id h
  obtain ⟨q', g1, _⟩ := id g
  have := mlt_le hF h g1
  have := mlt_le hF g h1
  omega
theorem irz_pow {F G : Pl} {d : Nat} (hF : irz F d) : ∀ {e : Nat}, dvz F (plP G e) → dvz F G
  | 0, h => by
    exfalso
    obtain ⟨q, hq⟩ := h
    obtain ⟨f1, f2, f3, f4, f5⟩ := hF
    obtain ⟨k, m, km, k1, k2, m1, m2, _⟩ := dvz_top (n := 0) (b := plP G 0) (by show (1 : Int) ≠ 0; decide) (dl_X (Nat.succ_pos _)) hq
    have := top_u k1 k2 (by omega) f3
    omega
  | e + 1, h => by
    rcases irz_prime hF (a := plP G e) (b := G) h with c | c
    · exact irz_pow hF c
    · exact c
/-- dividing another factor out does not change how often -/
theorem mlt_other {F G W w : Pl} {d d' e k : Nat} (hF : irz F d) (hG : irz G d') (hne : F ≠ G) (h : ∀ x, ev W x = ev G x ^ k * ev w x) (hw : mlt F w e) : mlt F W e := by
  obtain ⟨q, h1, h2⟩ := hw
  refine ⟨plM (plP G k) q, fun x => by rw [h x, h1 x, ev_M, ev_P]; grind, fun c => ?_⟩
  rcases irz_prime hF c with x | x
  · exact hne (irz_eq hF hG (irz_pow hF x))
  · exact h2 x
