/-! Powers, Frobenius, and v^p - v as a product. -/
def plP (a : Pl) : Nat → Pl
  | 0 => plX 1 0
  | n + 1 => plM (plP a n) a
theorem ev_P {a : Pl} {x : Int} : ∀ {n : Nat}, ev (plP a n) x = ev a x ^ n
  | 0 => by show ev (plX 1 0) x = _; rw [ev_X, Int.pow_zero, Int.pow_zero]; rfl
  | n + 1 => by show ev (plM (plP a n) a) x = _; rw [ev_M, ev_P, Int.pow_succ]
def plZ (f : Nat → Pl) : Nat → Pl
  | 0 => plX 0 0
  | n + 1 => plA (plZ f n) (f n)
theorem ev_Z {f : Nat → Pl} {x : Int} : ∀ {n : Nat}, ev (plZ f n) x = psum (fun i => ev (f i) x) n
  | 0 => by show ev (plX 0 0) x = 0; rw [ev_X, Int.zero_mul]
  | n + 1 => by show ev (plA (plZ f n) (f n)) x = psum (fun i => ev (f i) x) n + ev (f n) x; rw [ev_A, ev_Z]
theorem frob {q : Nat} (hp : prm ((q + 1 : Nat) : Int)) (u v : Pl) : cg ((q + 1 : Nat) : Int) (plP (plA u v) (q + 1)) (plA (plP u (q + 1)) (plP v (q + 1))) := by
  refine ⟨plZ (fun k => plK ((bc (q + 1) (k + 1) : Int) / ((q + 1 : Nat) : Int)) (plM (plP u (k + 1)) (plP v (q + 1 - (k + 1))))) q, fun x => ?_⟩
  rw [ev_P, ev_A, ev_A, ev_P, ev_P, ev_Z, binom, show psum (fun k => (bc (q + 1) k : Int) * (ev u x ^ k * ev v x ^ (q + 1 - k))) (q + 1 + 1) = psum (fun k => (bc (q + 1) k : Int) * (ev u x ^ k * ev v x ^ (q + 1 - k))) (q + 1) + (bc (q + 1) (q + 1) : Int) * (ev u x ^ (q + 1) * ev v x ^ (q + 1 - (q + 1))) from rfl, psum_succ, bc_0, bc_self, Nat.sub_self, Nat.sub_zero, Int.pow_zero, Int.pow_zero]
  have h : psum (fun k => (bc (q + 1) (k + 1) : Int) * (ev u x ^ (k + 1) * ev v x ^ (q + 1 - (k + 1)))) q = ((q + 1 : Nat) : Int) * psum (fun i => ev (plK ((bc (q + 1) (i + 1) : Int) / ((q + 1 : Nat) : Int)) (plM (plP u (i + 1)) (plP v (q + 1 - (i + 1))))) x) q := by
    rw [← psum_mul]
    refine psum_congr (fun k hk => ?_)
    rw [ev_K, ev_M, ev_P, ev_P, ← Int.mul_assoc ((q + 1 : Nat) : Int), Int.mul_ediv_cancel' (bc_prm hp hk)]
  rw [h]
  omega
noncomputable def plO (R v : Pl) : Pl := plZ (fun i => plK (R.1 i) (plP v i)) R.2.choose
theorem ev_O {R v : Pl} {x : Int} : ev (plO R v) x = ev R (ev v x) := by
  unfold plO
  rw [ev_Z]
  show _ = pv R.1 R.2.choose (ev v x)
  exact psum_congr (fun i _ => by rw [ev_K, ev_P])
theorem roots_p {p : Int} (hp : prm p) : ∀ {d : Nat} {a : Pl} {X : List Int}, dl d a → d ≤ X.length → X.Pairwise (fun x y => ¬ p ∣ x - y) → (∀ x, x ∈ X → p ∣ ev a x) → zr p a
  | 0, a, X, h, _, _, _, i => by rw [h i (Nat.zero_le _)]; exact ⟨0, (Int.mul_zero p).symm⟩
  | d + 1, a, [], h, hl, _, _, _ => absurd hl (by show ¬ (d + 1 ≤ 0); omega)
  | d + 1, a, y :: X, h, hl, hd, hv, i => by
    obtain ⟨q, h1, h2⟩ := synth (y := y) h
    obtain ⟨d1, d2⟩ := List.pairwise_cons.mp hd
    have ih : zr p q := roots_p hp h1 (by rw [List.length_cons] at hl; omega) d2 (fun x hx => by
      have b1 := hv x (List.mem_cons_of_mem _ hx)
      have b2 := hv y List.mem_cons_self
      have b3 := Int.dvd_sub b1 b2
      rw [h2 x, show ev a y + (x - y) * ev q x - ev a y = (x - y) * ev q x by omega] at b3
      rcases hp.2 _ _ b3 with c | c
      · exact absurd (by rw [show y - x = -(x - y) by omega]; exact Int.dvd_neg.mpr c) (d1 x hx)
      · exact c)
    have e : a = plA (plX (ev a y) 0) (plS (plU q) (plK y q)) := ev_ext (fun x => by
      rw [ev_A, ev_X, ev_S, ev_U, ev_K, h2 x, Int.pow_zero]
      grind)
    have e2 : a.1 i = pone (ev a y) 0 i + ((if i = 0 then 0 else q.1 (i - 1)) - y * q.1 i) := congrArg (fun c : Pl => c.1 i) e
    rw [e2]
    refine Int.dvd_add ?_ (Int.dvd_sub ?_ (Int.dvd_mul_of_dvd_right (ih i)))
    · unfold pone
      split
      · exact hv y List.mem_cons_self
      · exact ⟨0, (Int.mul_zero p).symm⟩
    · split
      · exact ⟨0, (Int.mul_zero p).symm⟩
      · exact ih (i - 1)
def fl : Nat → Pl
  | 0 => plX 1 0
  | n + 1 => plM (fl n) (plS (plX 1 1) (plX n 0))
theorem fl_mon : ∀ n, mon (fl n) n
  | 0 => ⟨dl_X (by omega), rfl⟩
  | n + 1 => by
    have h2 : dl (1 + 1) (plS (plX 1 1) (plX n 0)) := dl_S (dl_X (by omega)) (dl_X (by omega))
    obtain ⟨a, b⟩ := fl_mon n
    refine ⟨dl_M a h2 (by omega), ?_⟩
    show (plM (fl n) (plS (plX 1 1) (plX n 0))).1 (n + 1) = 1
    rw [plM_top a h2, b]
    rfl
theorem fl_root {p : Int} (x : Int) : ∀ {n : Nat} {s : Nat}, s < n → p ∣ x - s → p ∣ ev (fl n) x
  | 0, s, h, _ => absurd h (Nat.not_lt_zero _)
  | n + 1, s, h, hs => by
    show p ∣ ev (plM (fl n) (plS (plX 1 1) (plX n 0))) x
    rw [ev_M, ev_S, ev_X, ev_X, Int.pow_zero]
    by_cases e : s = n
    · subst e
      refine Int.dvd_mul_of_dvd_right ?_
      rw [show (1 : Int) * x ^ 1 - (s : Int) * 1 = x - s by rw [Int.pow_succ, Int.pow_zero]; omega]
      exact hs
    · exact Int.dvd_mul_of_dvd_left (fl_root x (by omega) hs)
theorem xpx {q : Nat} (hp : prm ((q + 2 : Nat) : Int)) : ∃ R : Pl, ∀ t : Int, t ^ (q + 2) - t = ev (fl (q + 2)) t + ((q + 2 : Nat) : Int) * ev R t := by
  have hz : zr ((q + 2 : Nat) : Int) (plS (plS (plX 1 (q + 2)) (plX 1 1)) (fl (q + 2))) := by
    refine roots_p hp (d := q + 2) (X := (List.range (q + 2)).map (fun (n : Nat) => (n : Int))) (fun i hi => ?_) ?_ ?_ (fun x _ => ?_)
    · show (if i = q + 2 then (1 : Int) else 0) - (if i = 1 then 1 else 0) - (fl (q + 2)).1 i = 0
      by_cases e : i = q + 2
      · rw [if_pos e, if_neg (by omega), e, (fl_mon (q + 2)).2]
        rfl
      · rw [if_neg e, if_neg (by omega), (fl_mon (q + 2)).1 i (by omega)]
        rfl
    · rw [List.length_map, List.length_range]
      exact Nat.le_refl _
    · rw [List.pairwise_map]
      refine List.Pairwise.imp_of_mem ?_ List.pairwise_lt_range
      intro a b ha hb hab c
      have hb' := List.mem_range.mp hb
      rw [show (a : Int) - b = -((b : Int) - a) by omega] at c
      have := Int.le_of_dvd (by omega) (Int.dvd_neg.mp c)
      omega
    · rw [ev_S, ev_S, ev_X, ev_X]
      refine Int.dvd_sub ?_ (fl_root x (s := (x % ((q + 2 : Nat) : Int)).toNat) ?_ ?_)
      · have := fermat (q := q + 1) hp x
        rw [Int.one_mul, Int.one_mul, Int.pow_succ (n := 0), Int.pow_zero, Int.one_mul]
        exact this
      · have := Int.emod_lt_of_pos x (show (0 : Int) < ((q + 2 : Nat) : Int) by omega)
        have := Int.emod_nonneg x (show ((q + 2 : Nat) : Int) ≠ 0 by omega)
        omega
      · rw [Int.toNat_of_nonneg (Int.emod_nonneg x (by omega))]
        exact Int.dvd_self_sub_emod
  obtain ⟨R, hR⟩ := zr_ev hz
  refine ⟨R, fun t => ?_⟩
  have := hR t
  rw [ev_S, ev_S, ev_X, ev_X, Int.one_mul, Int.one_mul, Int.pow_succ (n := 0), Int.pow_zero, Int.one_mul] at this
  omega
def gs (v : Pl) : Nat → Pl
  | 0 => plX 1 0
  | n + 1 => plM (gs v n) (plS v (plX n 0))
theorem ev_gs {v : Pl} {x : Int} : ∀ {n : Nat}, ev (gs v n) x = ev (fl n) (ev v x)
  | 0 => by show ev (plX 1 0) x = ev (plX 1 0) _; rw [ev_X, ev_X, Int.pow_zero, Int.pow_zero]
  | n + 1 => by
    show ev (plM (gs v n) (plS v (plX n 0))) x = ev (plM (fl n) (plS (plX 1 1) (plX n 0))) _
    rw [ev_M, ev_M, ev_S, ev_S, ev_gs, ev_X, ev_X, ev_X, Int.pow_succ, Int.pow_zero, Int.pow_zero, Int.one_mul, Int.one_mul]
theorem vpv {q : Nat} (hp : prm ((q + 2 : Nat) : Int)) (v : Pl) : cg ((q + 2 : Nat) : Int) (plS (plP v (q + 2)) v) (gs v (q + 2)) := by
  obtain ⟨R, hR⟩ := xpx hp
  refine ⟨plO R v, fun x => ?_⟩
  rw [ev_S, ev_P, ev_gs, ev_O]
  exact hR _
