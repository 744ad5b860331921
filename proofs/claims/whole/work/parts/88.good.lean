/-! A prime modulo which the greatest common divisor keeps its degree. -/
theorem cg_refl {m : Int} {a : Pl} : cg m a a := ⟨plX 0 0, fun x => by rw [ev_X]; grind⟩
theorem cg_symm {m : Int} {a b : Pl} (h : cg m a b) : cg m b a := by
  obtain ⟨r, h⟩ := h
  exact ⟨plK (-1) r, fun x => by have := h x; rw [ev_K]; grind⟩
theorem cg_trans {m : Int} {a b c : Pl} (h : cg m a b) (g : cg m b c) : cg m a c := by
  obtain ⟨r, h⟩ := h
  obtain ⟨s, g⟩ := g
  exact ⟨plA r s, fun x => by have := h x; have := g x; rw [ev_A]; grind⟩
theorem cg_A {m : Int} {a b c d : Pl} (h : cg m a b) (g : cg m c d) : cg m (plA a c) (plA b d) := by
  obtain ⟨r, h⟩ := h
  obtain ⟨s, g⟩ := g
  exact ⟨plA r s, fun x => by have := h x; have := g x; rw [ev_A, ev_A, ev_A]; grind⟩
theorem cg_S {m : Int} {a b c d : Pl} (h : cg m a b) (g : cg m c d) : cg m (plS a c) (plS b d) := by
  obtain ⟨r, h⟩ := h
  obtain ⟨s, g⟩ := g
  exact ⟨plS r s, fun x => by have := h x; have := g x; rw [ev_S, ev_S, ev_S]; grind⟩
theorem cg_M {m : Int} {a b c d : Pl} (h : cg m a b) (g : cg m c d) : cg m (plM a c) (plM b d) := by
  obtain ⟨r, h⟩ := h
  obtain ⟨s, g⟩ := g
  exact ⟨plA (plM r c) (plM b s), fun x => by have := h x; have := g x; rw [ev_M, ev_M, ev_A, ev_M, ev_M]; grind⟩
theorem cg_K {m c : Int} {a b : Pl} (h : cg m a b) : cg m (plK c a) (plK c b) := by
  obtain ⟨r, h⟩ := h
  exact ⟨plK c r, fun x => by have := h x; rw [ev_K, ev_K, ev_K]; grind⟩
theorem cg_eq {m : Int} {a b : Pl} (h : ∀ x, ev a x = ev b x) : cg m a b := by
  rw [ev_ext h]
  exact cg_refl
theorem cut_cg {p : Int} {a : Pl} {t : Nat} (h : mt p a t) : cg p (cut a.1 0 (t + 1)) a := cg_of (fun i => by
  show p ∣ (if i < t + 1 then a.1 (0 + i) else 0) - a.1 i
  by_cases c : i < t + 1
  · rw [if_pos c, Nat.zero_add, Int.sub_self]
    exact ⟨0, (Int.mul_zero p).symm⟩
  · rw [if_neg c, Int.zero_sub]
    exact Int.dvd_neg.mpr (h.2 i (by omega)))
theorem mt_of {p : Int} {a : Pl} {n : Nat} (h : ¬ p ∣ a.1 n) (g : dl (n + 1) a) : mt p a n := ⟨h, fun i hi => by rw [g i hi]; exact ⟨0, (Int.mul_zero p).symm⟩⟩
theorem prm_1 {p : Int} (hp : prm p) : ¬ p ∣ 1 := fun c => by
  have := Int.le_of_dvd (by decide) c
  have := hp.1
  omega
theorem mt_part {p : Int} (hp : prm p) {A D a : Pl} {n d : Nat} (h : cg p A (plM D a)) (hA : mt p A n) (hD : mt p D d) : ∃ t, mt p a t ∧ d + t = n := by
  have h1 := mt_cg h hA
  rcases mt_ex p a with c | ⟨t, c⟩
  · exact absurd (psum_dvd (fun i _ => Int.dvd_mul_of_dvd_right (c (n - i)))) h1.1
  · exact ⟨t, c, mt_uniq (mt_M hp hD c) h1⟩
def gz (A B G a b : Pl) : Prop := prim G ∧ (∀ x, ev A x = ev G x * ev a x) ∧ (∀ x, ev B x = ev G x * ev b x) ∧ ∃ (u v : Pl) (c : Int), c ≠ 0 ∧ ∀ x, ev u x * ev A x + ev v x * ev B x = c * ev G x
def eg (p : Int) (A B D : Pl) (d : Nat) : Prop := dl (d + 1) D ∧ D.1 d = 1 ∧ (∃ u v, cg p D (plA (plM u A) (plM v B))) ∧ (∃ a, cg p A (plM D a)) ∧ ∃ b, cg p B (plM D b)
theorem top_M {a b : Pl} {n m : Nat} (h : a.1 n ≠ 0) (h' : dl (n + 1) a) (g : b.1 m ≠ 0) (g' : dl (m + 1) b) : (plM a b).1 (n + m) ≠ 0 ∧ dl (n + m + 1) (plM a b) :=
  ⟨by rw [plM_top h' g']; exact fun c => by rcases Int.mul_eq_zero.mp c with c | c; exact h c; exact g c, dl_M h' g' (by omega)⟩
theorem top_u {a : Pl} {n m : Nat} (h : a.1 n ≠ 0) (h' : dl (n + 1) a) (g : a.1 m ≠ 0) (g' : dl (m + 1) a) : n = m := by
  rcases Nat.lt_trichotomy n m with c | c | c
  · exact absurd (h' m c) g
  · exact c
  · exact absurd (g' n c) h
theorem pl_can {G w : Pl} (h : ∃ i, G.1 i ≠ 0) (g : ∀ x, ev G x * ev w x = 0) : ∀ i, w.1 i = 0 := by
  rcases pl_top w with c | ⟨m, c1, c2⟩
  · exact c
  · exfalso
    rcases pl_top G with d | ⟨n, d1, d2⟩
    · obtain ⟨i, hi⟩ := h
      exact hi (d i)
    · have e : plM G w = plX 0 0 := ev_ext (fun x => by rw [ev_M, g x, ev_X]; omega)
      refine (top_M d1 d2 c1 c2).1 ?_
      rw [e]
      show (if n + m = 0 then (0 : Int) else 0) = 0
      split <;> rfl
theorem pl_eqc {G w z : Pl} (h : ∃ i, G.1 i ≠ 0) (g : ∀ x, ev G x * ev w x = ev G x * ev z x) (x : Int) : ev w x = ev z x := by
  have := ev_0 (pl_can (w := plS w z) h (fun x => by rw [ev_S]; have := g x; grind)) x
  rw [ev_S] at this
  omega
theorem prim_ne {G : Pl} (h : prim G) : ∃ i, G.1 i ≠ 0 := Classical.byContradiction (fun c => by
  have : ∀ i, G.1 i = 0 := fun i => Classical.byContradiction (fun e => c ⟨i, e⟩)
  have := h 0 (fun i => by rw [this i]; exact Int.dvd_refl 0)
  exact absurd this (by decide))
/-- the rows x^i A and x^j B do not depend on each other -/
theorem gz_ind {A B G a b : Pl} {k2 : Nat} (hz : gz A B G a b) (ha : a.1 k2 ≠ 0) (ha' : dl (k2 + 1) a) {k1 : Nat} (u v : Pl) (_ : dl k1 u) (hv : dl k2 v) (h : ∀ i, (plM u A).1 i + (plM v B).1 i = 0) : (∀ i, u.1 i = 0) ∧ ∀ i, v.1 i = 0 := by
  obtain ⟨hG, hA, hB, s, t, c, hc, hs⟩ := hz
  have hG0 := prim_ne hG
  have h1 : ∀ x, ev u x * ev A x + ev v x * ev B x = 0 := fun x => by
    rw [← ev_M, ← ev_M, ← ev_A]
    exact ev_0 h x
  have h2 : ∀ x, ev u x * ev a x + ev v x * ev b x = 0 := fun x => by
    have := pl_eqc (w := plA (plM u a) (plM v b)) (z := plX 0 0) hG0 (fun x => by
      rw [ev_A, ev_M, ev_M, ev_X]
      have := h1 x
      rw [hA x, hB x] at this
      grind) x
    rw [ev_A, ev_M, ev_M, ev_X] at this
    omega
  have h3 : ∀ x, ev s x * ev a x + ev t x * ev b x = c := fun x => by
    have := pl_eqc (w := plA (plM s a) (plM t b)) (z := plX c 0) hG0 (fun x => by
      rw [ev_A, ev_M, ev_M, ev_X, Int.pow_zero]
      have := hs x
      rw [hA x, hB x] at this
      grind) x
    rw [ev_A, ev_M, ev_M, ev_X, Int.pow_zero] at this
    omega
  have h4 : ∀ x, c * ev v x = ev a x * (ev s x * ev v x - ev t x * ev u x) := fun x => by
    have a1 := h2 x
    have a2 := h3 x
    grind
  have hv0 : ∀ i, v.1 i = 0 := by
    rcases pl_top v with d | ⟨k, d1, d2⟩
    · exact d
    · exfalso
      have e : plK c v = plM a (plS (plM s v) (plM t u)) := ev_ext (fun x => by rw [ev_K, ev_M, ev_S, ev_M, ev_M]; exact h4 x)
      rcases pl_top (plS (plM s v) (plM t u)) with f | ⟨l, f1, f2⟩
      · have : (plK c v).1 k = 0 := by
          rw [e]
          show pmul a.1 (plS (plM s v) (plM t u)).1 k = 0
          rw [pmul_comm]
          exact pmul_z f k
        rcases Int.mul_eq_zero.mp this with q | q
        · exact hc q
        · exact d1 q
      · have g := top_M ha ha' f1 f2
        rw [← e] at g
        have g3 : k2 + l = k := by
          refine top_u g.1 g.2 ?_ (dl_K d2)
          show c * v.1 k ≠ 0
          exact fun q => by rcases Int.mul_eq_zero.mp q with q | q; exact hc q; exact d1 q
        rcases Nat.lt_or_ge k k2 with q | q
        · omega
        · exact d1 (hv k q)
  refine ⟨?_, hv0⟩
  refine pl_can (G := a) ⟨k2, ha⟩ (fun x => ?_)
  have := h2 x
  rw [ev_0 hv0 x] at this
  grind
theorem eg_ge {p : Int} (hp : prm p) {A B G a b D : Pl} {g d : Nat} (hz : gz A B G a b) (hg : mt p G g) (h : eg p A B D d) : ∃ w : Pl, cg p D (plM G w) ∧ ∃ t, mt p w t ∧ g + t = d := by
  obtain ⟨hG, hA, hB, _⟩ := hz
  obtain ⟨h1, h2, ⟨u, v, h3⟩, _, _⟩ := h
  have h4 : cg p D (plM G (plA (plM u a) (plM v b))) := cg_trans h3 (cg_eq (fun x => by
    rw [ev_A, ev_M, ev_M, ev_M, ev_A, ev_M, ev_M, hA x, hB x]
    grind))
  obtain ⟨t, h5, h6⟩ := mt_part hp h4 (mt_of (by rw [h2]; exact prm_1 hp) h1) hg
  exact ⟨_, h4, t, h5, h6⟩
/-- where the degree is right, lead times the divisor modulo p is the divisor -/
theorem eg_same {p : Int} (hp : prm p) {A B G a b D : Pl} {g : Nat} (hz : gz A B G a b) (hg : mt p G g) (h : eg p A B D g) (i : Nat) : p ∣ G.1 i - G.1 g * D.1 i := by
  obtain ⟨w, h1, t, h2, h3⟩ := eg_ge hp hz hg h
  have ht : t = 0 := by omega
  subst ht
  have h4 : cg p w (plX (w.1 0) 0) := cg_of (fun i => by
    show p ∣ w.1 i - (if i = 0 then w.1 0 else 0)
    by_cases e : i = 0
    · rw [if_pos e, e, Int.sub_self]; exact ⟨0, (Int.mul_zero p).symm⟩
    · rw [if_neg e, Int.sub_zero]; exact h2.2 i (by omega))
  have h5 : cg p D (plK (w.1 0) G) := cg_trans h1 (cg_trans (cg_M cg_refl h4) (cg_eq (fun x => by rw [ev_M, ev_X, ev_K, Int.pow_zero]; grind)))
  have h6 : ∀ j, p ∣ D.1 j - w.1 0 * G.1 j := fun j => cg_co h5 j
  obtain ⟨y, hy⟩ := h6 g
  obtain ⟨z, hz'⟩ := h6 i
  rw [h.2.1] at hy
  refine ⟨G.1 i * y - G.1 g * z, ?_⟩
  grind
theorem eg_bad {p : Int} (hp : prm p) {A B D : Pl} {n m d : Nat} (hA : mt p A n) (hB : mt p B m) (h : eg p A B D d) : d ≤ n ∧ d ≤ m ∧ ∃ u v : Pl, dl (m - d + 1) u ∧ dl (n - d + 1) v ∧ (¬ p ∣ u.1 (m - d)) ∧ ∀ i, p ∣ (plM u A).1 i + (plM v B).1 i := by
  obtain ⟨h1, h2, _, ⟨a, h3⟩, b, h4⟩ := h
  have hD : mt p D d := mt_of (by rw [h2]; exact prm_1 hp) h1
  obtain ⟨t, t1, t2⟩ := mt_part hp h3 hA hD
  obtain ⟨s, s1, s2⟩ := mt_part hp h4 hB hD
  refine ⟨by omega, by omega, cut b.1 0 (s + 1), plK (-1) (cut a.1 0 (t + 1)), ?_, ?_, ?_, fun i => ?_⟩
  · rw [show m - d + 1 = s + 1 by omega]; exact cut_dl
  · rw [show n - d + 1 = t + 1 by omega]; exact dl_K cut_dl
  · rw [show m - d = s by omega]
    show ¬ p ∣ (if s < s + 1 then b.1 (0 + s) else 0)
    rw [if_pos (by omega), Nat.zero_add]
    exact s1.1
  · have c1 : cg p (plM (cut b.1 0 (s + 1)) A) (plM b (plM D a)) := cg_M (cut_cg s1) h3
    have c2 : cg p (plM (plK (-1) (cut a.1 0 (t + 1))) B) (plM (plK (-1) a) (plM D b)) := cg_M (cg_K (cut_cg t1)) h4
    have c3 : cg p (plA (plM (cut b.1 0 (s + 1)) A) (plM (plK (-1) (cut a.1 0 (t + 1))) B)) (plX 0 0) := cg_trans (cg_A c1 c2) (cg_eq (fun x => by
      rw [ev_A, ev_M, ev_M, ev_M, ev_M, ev_K, ev_X]
      grind))
    have := cg_co c3 i
    have e : (plX 0 0).1 i = 0 := by
      show (if i = 0 then (0 : Int) else 0) = 0
      split <;> rfl
    rw [e, Int.sub_zero] at this
    exact this
def lprod : List Int → Int
  | [] => 1
  | p :: ps => p * lprod ps
def dst : List Int → Prop
  | [] => True
  | p :: ps => (¬ p ∣ lprod ps) ∧ dst ps
theorem lp_dvd {D : Int} : ∀ {ps : List Int}, (∀ p, p ∈ ps → prm p ∧ p ∣ D) → dst ps → lprod ps ∣ D
  | [], _, _ => Int.one_dvd D
  | p :: ps, h, hd => by
    obtain ⟨k, hk⟩ := lp_dvd (fun q hq => h q (List.mem_cons_of_mem _ hq)) hd.2
    obtain ⟨h1, h2⟩ := h p List.mem_cons_self
    rw [hk] at h2
    rcases h1.2 _ _ h2 with c | ⟨j, c⟩
    · exact absurd c hd.1
    · exact ⟨j, by rw [hk, c]; show lprod ps * (p * j) = p * lprod ps * j; grind⟩
theorem goodp {A B G a b : Pl} {n m g : Nat} {SA SB : Int} {ps : List Int} (hz : gz A B G a b) (A1 : A.1 n ≠ 0) (A2 : dl (n + 1) A) (B1 : B.1 m ≠ 0) (B2 : dl (m + 1) B) (G1 : G.1 g ≠ 0) (G2 : dl (g + 1) G) (sA : nm A ≤ SA) (sB : nm B ≤ SB) (hd : dst ps) (hps : ∀ p, p ∈ ps → prm p ∧ (¬ p ∣ A.1 n) ∧ ¬ p ∣ B.1 m) (hb : SA ^ (m - g) * SB ^ (n - g) < lprod ps) :
    g ≤ n ∧ g ≤ m ∧ ∃ p, p ∈ ps ∧ ∀ D d, eg p A B D d → d = g := by
  have eA : A = plM G a := ev_ext (fun x => by rw [ev_M]; exact hz.2.1 x)
  have eB : B = plM G b := ev_ext (fun x => by rw [ev_M]; exact hz.2.2.1 x)
  have hz0 : ∀ {H c : Pl}, (∀ i, c.1 i = 0) → ∀ i, (plM H c).1 i = 0 := fun {H c} f i => by
    show pmul H.1 c.1 i = 0
    rw [pmul_comm]
    exact pmul_z f i
  have ta : ∃ k, a.1 k ≠ 0 ∧ dl (k + 1) a ∧ g + k = n := by
    rcases pl_top a with f | ⟨k, f1, f2⟩
    · exact absurd (by rw [eA]; exact hz0 f n) A1
    · have t := top_M G1 G2 f1 f2
      rw [← eA] at t
      exact ⟨k, f1, f2, top_u t.1 t.2 A1 A2⟩
  have tb : ∃ k, b.1 k ≠ 0 ∧ dl (k + 1) b ∧ g + k = m := by
    rcases pl_top b with f | ⟨k, f1, f2⟩
    · exact absurd (by rw [eB]; exact hz0 f m) B1
    · have t := top_M G1 G2 f1 f2
      rw [← eB] at t
      exact ⟨k, f1, f2, top_u t.1 t.2 B1 B2⟩
  obtain ⟨ka, ka1, ka2, ka3⟩ := ta
  obtain ⟨kb, kb1, kb2, kb3⟩ := tb
  refine ⟨by omega, by omega, ?_⟩
  have lG : G.1 g * a.1 ka = A.1 n := by
    rw [← ka3]
    have := plM_top G2 ka2
    rw [← eA] at this
    exact this.symm
  refine Classical.byContradiction (fun bad => ?_)
  obtain ⟨R, R1, R2, R3⟩ := res (a := A) (b := B) (k1 := m - g) (k2 := n - g) (N := n + 1 + (m + 1)) (fun j => Int.le_trans (nm_le j) sA) (fun j => Int.le_trans (nm_le j) sB) A2 B2 (by omega) (by omega) (fun u v hu hv h => gz_ind hz (by rw [show n - g = ka by omega]; exact ka1) (by rw [show n - g = ka by omega]; exact ka2) u v hu hv h)
  have hp : ∀ p, p ∈ ps → prm p ∧ p ∣ R := fun p hp => by
    obtain ⟨p1, p2, p3⟩ := hps p hp
    refine ⟨p1, ?_⟩
    have : ∃ D d, eg p A B D d ∧ d ≠ g := Classical.byContradiction (fun c => bad ⟨p, hp, fun D d h => Classical.byContradiction (fun ne => c ⟨D, d, h, ne⟩)⟩)
    obtain ⟨D, d, h1, h2⟩ := this
    have hg : mt p G g := mt_of (fun c => p2 (by rw [← lG]; exact Int.dvd_mul_of_dvd_left c)) G2
    obtain ⟨w, _, t, _, ht⟩ := eg_ge p1 hz hg h1
    obtain ⟨d1, d2, u, v, u1, v1, u2, uv⟩ := eg_bad p1 (mt_of p2 A2) (mt_of p3 B2) h1
    have := (R3 p u v (dl_mono (by omega) u1) (dl_mono (by omega) v1) uv (m - d)).1
    rcases p1.2 _ _ this with c | c
    · exact absurd c u2
    · exact c
  have h1 := lp_dvd hp hd
  have h2 : lprod ps ≤ ab R := by
    refine Int.le_of_dvd (by unfold ab; omega) ?_
    exact Int.dvd_natAbs.mpr h1
  omega
/-- a primitive common divisor of the full degree is the greatest -/
theorem gz_uniq {A B G a b F : Pl} {g f : Nat} (hz : gz A B G a b) (G1 : 0 < G.1 g) (G2 : dl (g + 1) G) (hF : prim F) (F1 : 0 < F.1 f) (F2 : dl (f + 1) F) (hfg : g ≤ f) (fa : ∃ q : Pl, ∀ x, ev A x = ev F x * ev q x) (fb : ∃ q : Pl, ∀ x, ev B x = ev F x * ev q x) : ∀ i, F.1 i = G.1 i := by
  obtain ⟨hG, hA, hB, u, v, c, hc, huv⟩ := hz
  obtain ⟨q, hq⟩ := fa
  obtain ⟨r, hr⟩ := fb
  obtain ⟨s, hs⟩ := prim_div (G := F) (A := G) hF _ c (plA (plM u q) (plM v r)) rfl hc (fun x => by
    rw [← huv x, ev_A, ev_M, ev_M, hq x, hr x]
    grind)
  have e : G = plM F s := ev_ext (fun x => by rw [ev_M]; exact hs x)
  rcases pl_top s with t | ⟨k, t1, t2⟩
  · exfalso
    have : G.1 g = 0 := by
      rw [e]
      show pmul F.1 s.1 g = 0
      rw [pmul_comm]
      exact pmul_z t g
    omega
  · have t := top_M (by omega) F2 t1 t2
    rw [← e] at t
    have hk := top_u t.1 t.2 (by omega) G2
    have k0 : k = 0 := by omega
    subst k0
    have e2 : ∀ i, G.1 i = s.1 0 * F.1 i := fun i => by
      have e3 : G = plK (s.1 0) F := ev_ext (fun x => by
        rw [hs x, ev_K, ev_of t2]
        show _ * (0 + s.1 0 * x ^ 0) = _
        rw [Int.pow_zero]
        grind)
      exact congrArg (fun c : Pl => c.1 i) e3
    have e4 := hG (s.1 0) (fun i => ⟨F.1 i, e2 i⟩)
    have e5 : s.1 0 = 1 := by
      have : s.1 0 = 1 ∨ s.1 0 = -1 := by omega
      rcases this with e5 | e5
      · exact e5
      · exfalso
        have g1 := e2 f
        rw [show f = g by omega] at g1 F1
        rw [e5] at g1
        omega
    intro i
    rw [e2 i, e5, Int.one_mul]
