/-! A lifted monic divisor is the only one; the parts of a divisor. -/
theorem mon_can {G w t : Pl} {d : Nat} (hG : mon G d) (ht : dl d t) (e : ∀ x, ev G x * ev w x = ev t x) : ∀ i, w.1 i = 0 := by
  rcases pl_top w with z | ⟨n, n1, n2⟩
  · exact z
  · exfalso
    have h1 := top_M (a := G) (b := w) (n := d) (by rw [hG.2]; decide) hG.1 n1 n2
    have e1 : t = plM G w := ev_ext (fun x => by rw [ev_M, e x])
    rw [← e1] at h1
    exact h1.1 (ht _ (by omega))
theorem lift_step {p m : Int} (hp : prm p) (hm : m ≠ 0) (hmp : p ∣ m) {G H g h O : Pl} {d : Nat} {a : Int} (hG : mon G d) (hg : dl (d + 1) g) (ga : g.1 d = a) (hO1 : cg (m * p) O (plM G H)) (hO2 : ∀ x, ev O x = ev g x * ev h x) (hc : cop p G H) (ih : cg m g (plK a G)) : cg (m * p) g (plK a G) := by
  obtain ⟨r, hr⟩ := ih
  obtain ⟨z, hz⟩ := hO1
  have eg : g = plA (plK a G) (plK m r) := ev_ext (fun x => by rw [hr x, ev_A, ev_K, ev_K])
  have hrd : dl d r := fun i hi => by
    have h1 : g.1 i = a * G.1 i + m * r.1 i := congrArg (fun c : Pl => c.1 i) eg
    have h2 : m * r.1 i = 0 := by
      by_cases c : i = d
      · subst c
        rw [ga, hG.2] at h1
        omega
      · rw [hg i (by omega), hG.1 i (by omega), Int.mul_zero] at h1
        omega
    rcases Int.mul_eq_zero.mp h2 with c | c
    · exact absurd c hm
    · exact c
  obtain ⟨q, t, t1, t2⟩ := ediv_1 hG.1 hG.2 (plS (plM r h) (plK p z))
  have key : ∀ x, ev G x * ev (plS (plS H (plK a h)) (plK m q)) x = ev (plK m t) x := fun x => by
    have e1 := hO2 x
    have e2 := hz x
    have e3 := hr x
    have e4 := t2 x
    rw [ev_S, ev_M, ev_K] at e4
    rw [ev_M] at e2
    rw [ev_K] at e3
    simp only [ev_S, ev_K]
    generalize ev G x = G' at *
    generalize ev H x = H' at *
    generalize ev h x = h' at *
    generalize ev g x = g' at *
    generalize ev r x = r' at *
    generalize ev z x = z' at *
    generalize ev q x = q' at *
    generalize ev t x = t' at *
    have e5 : G' * H' + m * p * z' = (a * G' + m * r') * h' := by rw [← e3, ← e1, ← e2]
    have e6 : t' = r' * h' - p * z' - G' * q' := by omega
    rw [e6]
    grind
  have z0 := mon_can hG (dl_K t1) key
  have eH : ∀ x, ev H x = a * ev h x + m * ev q x := fun x => by
    have := ev_0 z0 x
    rw [ev_S, ev_S, ev_K, ev_K] at this
    omega
  -- r h is a multiple of G modulo p
  have hGr : dvp p G (plM h r) := ⟨q, ⟨z, fun x => by
    have e4 := t2 x
    have e7 := key x
    rw [ev_0 z0 x, Int.mul_zero, ev_K] at e7
    have t0 : ev t x = 0 := by
      rcases Int.mul_eq_zero.mp e7.symm with c | c
      · exact absurd c hm
      · exact c
    rw [ev_S, ev_M, ev_K, t0] at e4
    rw [ev_M, ev_M, Int.mul_comm (ev h x)]
    omega⟩⟩
  have hch : cop p G h := by
    obtain ⟨u, v, y, hy⟩ := hc
    obtain ⟨m', hm'⟩ := hmp
    refine ⟨u, plK a v, plA y (plK m' (plM v q)), fun x => ?_⟩
    have := hy x
    simp only [ev_A, ev_M, ev_K] at this ⊢
    rw [this, eH x, hm']
    grind
  have hzr := dvp_deg hp hG (cop_dvp hch hGr) hrd
  obtain ⟨r', hr'⟩ := zr_ev hzr
  exact ⟨r', fun x => by rw [hr x, hr' x, Int.mul_assoc]⟩
theorem cg_pow {p : Int} {a b : Pl} {s t : Nat} (h : cg (p ^ (s + t)) a b) : cg (p ^ s) a b := by
  obtain ⟨r, h⟩ := h
  exact ⟨plK (p ^ t) r, fun x => by rw [h x, ev_K, Int.pow_add, Int.mul_assoc]⟩
theorem lift_uniq {p : Int} (hp : prm p) {G H g h O : Pl} {d : Nat} {a : Int} (hG : mon G d) (hg : dl (d + 1) g) (ga : g.1 d = a) (hO2 : ∀ x, ev O x = ev g x * ev h x) (hc : cop p G H) (h1 : cg p g (plK a G)) : ∀ s : Nat, cg (p ^ (s + 1)) O (plM G H) → cg (p ^ (s + 1)) g (plK a G)
  | 0, _ => by
    rw [Int.pow_succ, Int.pow_zero, Int.one_mul]
    exact h1
  | s + 1, hO => by
    have ih := lift_uniq hp hG hg ga hO2 hc h1 s (cg_pow (s := s + 1) (t := 1) hO)
    rw [Int.pow_succ] at hO ⊢
    refine lift_step hp ?_ ⟨p ^ s, by rw [Int.pow_succ, Int.mul_comm]⟩ hG hg ga hO hO2 hc ih
    exact Int.pow_ne_zero (by have := hp.1; omega)
/-! products over a set of parts -/
def plB (b : Nat → Bool) (A : Nat → Pl) : Nat → Pl
  | 0 => plX 1 0
  | c + 1 => if b c then plM (plB b A c) (A c) else plB b A c
def dB (b : Nat → Bool) (dg : Nat → Nat) : Nat → Nat
  | 0 => 0
  | c + 1 => if b c then dB b dg c + dg c else dB b dg c
theorem B_t {b : Nat → Bool} {A : Nat → Pl} {c : Nat} (h : b c = true) : plB b A (c + 1) = plM (plB b A c) (A c) := if_pos h
theorem B_f {b : Nat → Bool} {A : Nat → Pl} {c : Nat} (h : ¬ b c = true) : plB b A (c + 1) = plB b A c := if_neg h
theorem dB_t {b : Nat → Bool} {A : Nat → Nat} {c : Nat} (h : b c = true) : dB b A (c + 1) = dB b A c + A c := if_pos h
theorem dB_f {b : Nat → Bool} {A : Nat → Nat} {c : Nat} (h : ¬ b c = true) : dB b A (c + 1) = dB b A c := if_neg h
theorem B_sp {b b' : Nat → Bool} {A : Nat → Pl} {x : Int} : ∀ {c : Nat}, (∀ i, i < c → (b' i = true ↔ ¬ b i = true)) → ev (plQ A c) x = ev (plB b A c) x * ev (plB b' A c) x
  | 0, _ => by
    show ev (plX 1 0) x = ev (plX 1 0) x * ev (plX 1 0) x
    rw [ev_X, Int.pow_zero]; rfl
  | c + 1, h => by
    have ih := B_sp (b := b) (b' := b') (A := A) (x := x) (c := c) (fun i hi => h i (by omega))
    have hc := h c (by omega)
    show ev (plM (plQ A c) (A c)) x = _
    rw [ev_M, ih]
    by_cases e : b c = true
    · rw [B_t e, B_f (fun y => hc.mp y e), ev_M]; grind
    · rw [B_f e, B_t (hc.mpr e), ev_M]; grind
theorem dB_sp {b b' : Nat → Bool} {dg : Nat → Nat} : ∀ {c : Nat}, (∀ i, i < c → (b' i = true ↔ ¬ b i = true)) → dB b dg c + dB b' dg c = dsum dg c
  | 0, _ => rfl
  | c + 1, h => by
    have ih := dB_sp (b := b) (b' := b') (dg := dg) (c := c) (fun i hi => h i (by omega))
    have hc := h c (by omega)
    show _ = dsum dg c + dg c
    by_cases e : b c = true
    · rw [dB_t e, dB_f (fun y => hc.mp y e)]; omega
    · rw [dB_f e, dB_t (hc.mpr e)]; omega
theorem B_mon {b : Nat → Bool} {A : Nat → Pl} {dg : Nat → Nat} : ∀ {c : Nat}, (∀ i, i < c → mon (A i) (dg i)) → mon (plB b A c) (dB b dg c)
  | 0, _ => ⟨dl_X (Nat.succ_pos _), rfl⟩
  | c + 1, h => by
    have ih := B_mon (b := b) (A := A) (dg := dg) (c := c) (fun i hi => h i (by omega))
    by_cases e : b c = true
    · rw [B_t e, dB_t e]; exact mon_M ih (h c (by omega))
    · rw [B_f e, dB_f e]; exact ih
theorem B_cg {p : Int} {b : Nat → Bool} {A P : Nat → Pl} : ∀ {c : Nat}, (∀ i, i < c → cg p (A i) (P i)) → cg p (plB b A c) (plB b P c)
  | 0, _ => cg_refl
  | c + 1, h => by
    have ih := B_cg (p := p) (b := b) (A := A) (P := P) (c := c) (fun i hi => h i (by omega))
    by_cases e : b c = true
    · rw [B_t e, B_t e]; exact cg_M ih (h c (by omega))
    · rw [B_f e, B_f e]; exact ih
theorem B_dvp {p : Int} {b : Nat → Bool} {P : Nat → Pl} {i : Nat} (hb : b i = true) : ∀ {c : Nat}, i < c → dvp p (P i) (plB b P c)
  | 0, h => absurd h (Nat.not_lt_zero _)
  | c + 1, h => by
    by_cases e : i = c
    · subst e; rw [B_t hb]; exact dvp_Ml dvp_refl
    · have ih := B_dvp (p := p) (P := P) hb (c := c) (by omega)
      by_cases e : b c = true
      · rw [B_t e]; exact dvp_Mr ih
      · rw [B_f e]; exact ih
theorem B_cop {p : Int} {b : Nat → Bool} {P : Nat → Pl} {i n : Nat} (hpw : pwc p P n) (hi : i < n) (hb : ¬ b i = true) : ∀ {c : Nat}, c ≤ n → cop p (P i) (plB b P c)
  | 0, _ => cop_1
  | c + 1, h => by
    have ih := B_cop (p := p) (P := P) hpw hi hb (c := c) (by omega)
    by_cases e : b c = true
    · rw [B_t e]
      refine cop_M ih ?_
      have hne : i ≠ c := fun x => hb (by rw [x]; exact e)
      rcases Nat.lt_or_ge i c with x | x
      · exact hpw i c x (by omega)
      · exact cop_symm (hpw c i (by omega) hi)
    · rw [B_f e]; exact ih
theorem B_all {p : Int} {b : Nat → Bool} {P : Nat → Pl} {g : Pl} {n : Nat} (hpw : pwc p P n) : ∀ {c : Nat}, c ≤ n → (∀ i, i < c → b i = true → dvp p (P i) g) → dvp p (plB b P c) g
  | 0, _, _ => ⟨g, cg_eq (fun x => by
      show _ = ev (plM (plX 1 0) g) x
      rw [ev_M, ev_X, Int.pow_zero, Int.one_mul, Int.one_mul])⟩
  | c + 1, hc, h => by
    have ih := B_all (p := p) (b := b) (P := P) (g := g) hpw (c := c) (by omega) (fun i hi => h i (by omega))
    by_cases e : b c = true
    · rw [B_t e]
      refine cop_mul ?_ ih (h c (by omega) e)
      -- the others have no common divisor with part c
      have : ∀ k, k ≤ c → cop p (P c) (plB b P k) := by
        intro k
        induction k with
        | zero => exact fun _ => cop_1
        | succ k ihk =>
          intro hk
          by_cases e2 : b k = true
          · rw [B_t e2]; exact cop_M (ihk (by omega)) (cop_symm (hpw k c (by omega) (by omega)))
          · rw [B_f e2]; exact ihk (by omega)
      exact cop_symm (this c (Nat.le_refl _))
    · rw [B_f e]; exact ih
theorem part_of {p : Int} (hp : prm p) {O g h : Pl} {P : Nat → Pl} {dg : Nat → Nat} {c n k m : Nat} {l : Int} {b : Nat → Bool} (hir : ∀ i, i < c → irr p (P i) (dg i)) (hn : dsum dg c = n) (hpw : pwc p P c) (hO : cg p O (plM (plX l 0) (plQ P c))) (hgh : ∀ x, ev O x = ev g x * ev h x) (g1 : ¬ p ∣ g.1 k) (g2 : dl (k + 1) g) (h1 : ¬ p ∣ h.1 m) (h2 : dl (m + 1) h) (km : k + m = n) (hb : ∀ i, i < c → (b i = true ↔ dvp p (P i) g)) : dB b dg c = k ∧ cg p g (plK (g.1 k) (plB b P c)) := by
  have hPm : ∀ i, i < c → mon (P i) (dg i) := fun i hi => (hir i hi).1
  have hPO : ∀ i, i < c → dvp p (P i) (plM g h) := fun i hi => dvp_cg (dvp_cg (dvp_Ml (Q_dvp hi)) hO) (cg_eq (fun x => by rw [ev_M, hgh x]))
  let b' : Nat → Bool := fun i => !b i
  have hb' : ∀ i, i < c → (b' i = true ↔ ¬ b i = true) := fun i _ => by
    show (!b i) = true ↔ ¬ b i = true
    cases b i <;> decide
  have dg1 : dvp p (plB b P c) g := B_all hpw (Nat.le_refl _) (fun i hi e => (hb i hi).mp e)
  have dh1 : dvp p (plB b' P c) h := B_all hpw (Nat.le_refl _) (fun i hi e => by
    rcases irr_prime hp (hir i hi) (hPO i hi) with x | x
    · exact absurd ((hb i hi).mpr x) ((hb' i hi).mp e)
    · exact x)
  have mg := mt_of g1 g2
  have mh := mt_of h1 h2
  have m1 := B_mon (b := b) hPm
  have m2 := B_mon (b := b') hPm
  have l1 := dvp_mt hp (mon_mt hp m1) dg1 mg
  have l2 := dvp_mt hp (mon_mt hp m2) dh1 mh
  have hs := dB_sp (dg := dg) hb'
  have hk : dB b dg c = k := by omega
  refine ⟨hk, ?_⟩
  obtain ⟨u, hu⟩ := dg1
  obtain ⟨t, t1, t2⟩ := mt_part hp hu mg (mon_mt hp m1)
  have t0 : t = 0 := by omega
  subst t0
  have cu : cg p u (plX (u.1 0) 0) := cg_of (fun i => by
    show p ∣ u.1 i - (if i = 0 then u.1 0 else 0)
    by_cases e : i = 0
    · rw [if_pos e, e, Int.sub_self]; exact ⟨0, (Int.mul_zero _).symm⟩
    · rw [if_neg e, Int.sub_zero]; exact t1.2 i (by omega))
  have cg1 : cg p g (plK (u.1 0) (plB b P c)) := cg_trans hu (cg_trans (cg_M cg_refl cu) (cg_eq (fun x => by rw [ev_M, ev_X, ev_K, Int.pow_zero, Int.mul_one, Int.mul_comm])))
  have ck := cg_co cg1 k
  have ek : (plK (u.1 0) (plB b P c)).1 k = u.1 0 := by
    show u.1 0 * (plB b P c).1 k = _
    rw [← hk, m1.2, Int.mul_one]
  rw [ek] at ck
  obtain ⟨y, hy⟩ := ck
  refine cg_trans cg1 ⟨plK (-y) (plB b P c), fun x => ?_⟩
  rw [ev_K, ev_K, ev_K]
  have : g.1 k = u.1 0 + p * y := by omega
  rw [this]
  grind
theorem part_lift {p : Int} (hp : prm p) {O g h : Pl} {P A : Nat → Pl} {dg : Nat → Nat} {c n k m s : Nat} {l : Int} {b : Nat → Bool} (hir : ∀ i, i < c → irr p (P i) (dg i)) (hn : dsum dg c = n) (hpw : pwc p P c) (hsq : sqf p O) (hO : cg p O (plM (plX l 0) (plQ P c))) (hA : ∀ i, i < c → mon (A i) (dg i) ∧ cg p (A i) (P i)) (hOm : cg (p ^ (s + 1)) O (plM (plX l 0) (plQ A c))) (hgh : ∀ x, ev O x = ev g x * ev h x) (g1 : ¬ p ∣ g.1 k) (g2 : dl (k + 1) g) (h1 : ¬ p ∣ h.1 m) (h2 : dl (m + 1) h) (km : k + m = n) (hb : ∀ i, i < c → (b i = true ↔ dvp p (P i) g)) : dB b dg c = k ∧ cg (p ^ (s + 1)) g (plK (g.1 k) (plB b A c)) := by
  obtain ⟨hk, h3⟩ := part_of hp hir hn hpw hO hgh g1 g2 h1 h2 km hb
  refine ⟨hk, ?_⟩
  let b' : Nat → Bool := fun i => !b i
  have hb' : ∀ i, i < c → (b' i = true ↔ ¬ b i = true) := fun i _ => by
    show (!b i) = true ↔ ¬ b i = true
    cases b i <;> decide
  have mA := B_mon (b := b) (A := A) (dg := dg) (c := c) (fun i hi => (hA i hi).1)
  rw [hk] at mA
  have e1 : cg (p ^ (s + 1)) O (plM (plB b A c) (plM (plX l 0) (plB b' A c))) := cg_trans hOm (cg_eq (fun x => by
    rw [ev_M, ev_M, ev_M, B_sp hb']
    grind))
  have hcop : cop p (plB b A c) (plM (plX l 0) (plB b' A c)) := sqf_cop hp hsq ⟨plX 1 0, by
    have e2 := cg_pow (p := p) (s := 1) (t := s) (by rw [Nat.add_comm]; exact e1)
    rw [Int.pow_succ, Int.pow_zero, Int.one_mul] at e2
    exact cg_trans e2 (cg_eq (fun x => by rw [ev_M (b := plX 1 0), ev_X, Int.pow_zero, Int.mul_one, Int.mul_one]))⟩
  exact lift_uniq hp mA g2 rfl hgh hcop (cg_trans h3 (cg_K (cg_symm (B_cg (fun i hi => (hA i hi).2))))) s e1
/-! sets of parts as numbers -/
theorem dig_0 {T : Nat} : dig 2 T 0 = T % 2 := by
  show T / 2 ^ 0 % 2 = T % 2
  rw [Nat.pow_zero, Nat.div_one]
theorem dig_s {T i : Nat} : dig 2 T (i + 1) = dig 2 (T / 2) i := by
  show T / 2 ^ (i + 1) % 2 = T / 2 / 2 ^ i % 2
  rw [Nat.pow_succ, Nat.mul_comm, Nat.div_div_eq_div_mul]
theorem dig_le : ∀ {c T S : Nat}, T < 2 ^ c → (∀ i, i < c → dig 2 T i ≤ dig 2 S i) → T ≤ S
  | 0, T, S, h, _ => by
    rw [Nat.pow_zero] at h
    omega
  | c + 1, T, S, h, g => by
    have ih := dig_le (c := c) (T := T / 2) (S := S / 2) (by rw [Nat.pow_succ] at h; omega) (fun i hi => by rw [← dig_s, ← dig_s]; exact g (i + 1) (by omega))
    have g0 := g 0 (by omega)
    rw [dig_0, dig_0] at g0
    omega
