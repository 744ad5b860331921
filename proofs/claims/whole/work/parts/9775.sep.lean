/-! Taking apart by the kernel's rows: the pure part. -/
def sqf (p : Int) (f : Pl) : Prop := cop p f (plT f)
theorem cop_irr {p : Int} (hp : prm p) {a b : Pl} (ha : ¬ zr p a) (h : ∀ q m, irr p q m → dvp p q a → dvp p q b → False) : cop p a b := by
  obtain ⟨D, d, e1, e2, ⟨u, v, e3⟩, a4, b5⟩ := bez_p hp (B := b) ha
  rcases Nat.eq_zero_or_pos d with c | c
  · subst c
    rw [mon_1 ⟨e1, e2⟩] at e3
    exact ⟨u, v, e3⟩
  · exfalso
    obtain ⟨q, m, h1, h2⟩ := irr_ex hp (mon_mt hp ⟨e1, e2⟩) c
    exact h q m h1 (dvp_trans h2 a4) (dvp_trans h2 b5)
theorem nzr_dvp {p : Int} {a b : Pl} (h : dvp p a b) (hb : ¬ zr p b) : ¬ zr p a := fun c => hb (by
  obtain ⟨t, ht⟩ := h
  refine zr_cg ht ?_
  exact zr_cg (cg_eq (fun x => by rw [ev_M, ev_M, Int.mul_comm])) (zr_M (a := t) c))
theorem sqf_nz {p : Int} (hp : prm p) {f : Pl} (h : sqf p f) : ¬ zr p f := fun c => by
  obtain ⟨u, v, h⟩ := h
  have h2 : zr p (plT f) := fun i => Int.dvd_mul_of_dvd_right (c (i + 1))
  have := zr_cg h (fun i => Int.dvd_add (zr_M (a := u) c i) (zr_M (a := v) h2 i)) 0
  have e : (plX 1 0).1 0 = 1 := rfl
  rw [e] at this
  exact prm_1 hp this
/-- no part stands in it twice -/
theorem sqf_irr {p : Int} (hp : prm p) {f a b q : Pl} {m : Nat} (h : sqf p f) (e : dvp p (plM a b) f) (hq : irr p q m) (h1 : dvp p q a) (h2 : dvp p q b) : False := by
  obtain ⟨t, ht⟩ := e
  have d1 : dvp p q f := dvp_cg (dvp_Mr (dvp_Mr h1)) ht
  have d2 : dvp p q (plT f) := by
    refine dvp_cg ?_ (cg_T ht)
    rw [plT_M, plT_M]
    exact dvp_A (dvp_Mr (dvp_A (dvp_Ml h2) (dvp_Mr h1))) (dvp_Mr (dvp_Mr h1))
  exact irr_nun hp hq (cop_dvp1 h d1 d2)
theorem sqf_cop {p : Int} (hp : prm p) {f a b : Pl} (h : sqf p f) (e : dvp p (plM a b) f) : cop p a b := by
  have na : ¬ zr p a := nzr_dvp (dvp_trans (dvp_self (b := b)) e) (sqf_nz hp h)
  exact cop_irr hp na (fun q m hq h1 h2 => sqf_irr hp h e hq h1 h2)
theorem Q_split {p : Int} {F : Nat → Pl} : ∀ {r i j : Nat}, i < j → j < r → dvp p (plM (F i) (F j)) (plQ F r)
  | 0, i, j, _, h => absurd h (Nat.not_lt_zero _)
  | r + 1, i, j, hij, h => by
    by_cases e : j = r
    · subst e
      obtain ⟨t, ht⟩ := Q_dvp (p := p) (F := F) (r := j) (i := i) hij
      exact ⟨t, cg_trans (cg_M ht cg_refl) (cg_eq (fun x => by simp only [ev_M]; grind))⟩
    · exact dvp_Mr (Q_split hij (by omega))
theorem sqf_pwc {p : Int} (hp : prm p) {f : Pl} {F : Nat → Pl} {c : Nat} (h : sqf p f) (e : cg p f (plQ F c)) : pwc p F c := fun i j hij hj => sqf_cop hp h (dvp_trans (Q_split hij hj) ⟨plX 1 0, cg_trans e (cg_eq (fun x => by rw [ev_M, ev_X, Int.pow_zero]; grind))⟩)
theorem Q_iff {p : Int} {f : Pl} {F : Nat → Pl} {c : Nat} (e : cg p f (plQ F c)) (h : pwc p F c) (w : Pl) : dvp p f w ↔ ∀ i, i < c → dvp p (F i) w := by
  obtain ⟨d1, d2⟩ := cg_dvp e
  exact ⟨fun g i hi => dvp_trans (dvp_trans (Q_dvp hi) d2) g, fun g => dvp_trans d1 (dvp_Q h g)⟩
/-- divided, or nothing in common -/
def sep (p : Int) (P w : Pl) : Prop := dvp p P w ∨ cop p P w
theorem sep_dvp {p : Int} {P P' w : Pl} (h : sep p P w) (g : dvp p P' P) : sep p P' w := by
  rcases h with h | h
  · exact Or.inl (dvp_trans g h)
  · exact Or.inr (cop_symm (cop_of_dvp (cop_symm h) g))
/-- at least as many rows in the kernel as parts without common divisors -/
theorem bkn_ge {q n F r : Nat} {M' : zM} {P : Nat → Pl} (hp : prm ((q + 2 : Nat) : Int)) (hm : mon (prP 8 (M' 47)) n) (hn : n < 8) (h : bkn q n F M') (hF : ∀ w, dvp ((q + 2 : Nat) : Int) (prP 8 (M' 47)) w ↔ ∀ i, i < r → dvp ((q + 2 : Nat) : Int) (P i) w) (hu : ∀ i, i < r → nun ((q + 2 : Nat) : Int) (P i)) (hC : pwc ((q + 2 : Nat) : Int) P r) : r ≤ F := by
  obtain ⟨R, m, pv, fr, h1, h2, h3, h4, h5⟩ := h
  have p0 : 0 < q + 2 := by omega
  generalize hf : prP 8 (M' 47) = f at hm hF h1
  have hv : ∀ y : Nat, ∃ v, dl n v ∧ dvp ((q + 2 : Nat) : Int) f (plS (plP v (q + 2)) v) ∧ ∀ i, i < r → dvp ((q + 2 : Nat) : Int) (P i) (plS v (plX ((dig (q + 2) y i : Nat) : Int) 0)) := fun y => by
    obtain ⟨v, hv⟩ := crt_Q (p := ((q + 2 : Nat) : Int)) (F := P) (r := r) (fun i => ((dig (q + 2) y i : Nat) : Int)) hC
    obtain ⟨a, v0, g1, g2⟩ := ediv_1 hm.1 hm.2 v
    have g3 : ∀ i, i < r → dvp ((q + 2 : Nat) : Int) (P i) (plS v0 (plX ((dig (q + 2) y i : Nat) : Int) 0)) := fun i hi => by
      have a1 := dvp_S (hv i hi) (dvp_Mr (c := a) ((hF f).mp dvp_refl i hi))
      exact dvp_cg a1 (cg_eq (fun t => by
        simp only [ev_S, ev_M]
        rw [g2 t]
        omega))
    refine ⟨v0, g1, ?_, g3⟩
    refine dvp_cg ?_ (vpv hp v0)
    exact (hF _).mpr (fun i hi => dvp_gs (g3 i hi) (dig_lt p0))
  let W : Nat → Pl := fun y => (hv y).choose
  have W1 : ∀ y, dl n (W y) := fun y => (hv y).choose_spec.1
  have W2 : ∀ y, dvp ((q + 2 : Nat) : Int) f (plS (plP (W y) (q + 2)) (W y)) := fun y => (hv y).choose_spec.2.1
  have W3 : ∀ y i, i < r → dvp ((q + 2 : Nat) : Int) (P i) (plS (W y) (plX ((dig (q + 2) y i : Nat) : Int) 0)) := fun y => (hv y).choose_spec.2.2
  let T : Nat → Nat → Nat := fun y j => ((W y).1 (fr j) % ((q + 2 : Nat) : Int)).toNat
  have T0 : ∀ y j, ((T y j : Nat) : Int) = (W y).1 (fr j) % ((q + 2 : Nat) : Int) := fun y j => Int.toNat_of_nonneg (Int.emod_nonneg _ (by omega))
  have T1 : ∀ y j, T y j < q + 2 := fun y j => by
    have a1 := T0 y j
    have a2 := Int.emod_lt_of_pos ((W y).1 (fr j)) (show (0 : Int) < ((q + 2 : Nat) : Int) by omega)
    omega
  have le2 : (q + 2) ^ r ≤ (q + 2) ^ F := by
    refine pigeon (g := fun y => enc (q + 2) (T y) F) (fun y _ => enc_lt p0 (T1 y) F) (fun x y hx hy e => ?_)
    have e1 := enc_inj p0 (T1 x) (T1 y) e
    have hker : ∀ y, ∀ j, j < n → ((q + 2 : Nat) : Int) ∣ psum (fun i => (W y).1 i * (R i).1 j) n := fun y j hj => by
      have := (bz hp hm h1 (W1 y)).mp (W2 y) j
      rw [co_Z] at this
      exact this
    have g1 : cg ((q + 2 : Nat) : Int) (W x) (W y) := cg_of (fun i => by
      by_cases c : i < n
      · have b1 := elim_B h2 (hker x) i c
        have b2 := elim_B h2 (hker y) i c
        have b3 : ((q + 2 : Nat) : Int) ∣ psum (fun t => (W x).1 (fr t) * zkr M' t i) F - psum (fun t => (W y).1 (fr t) * zkr M' t i) F := by
          rw [← psum_sub]
          refine psum_dvd (fun j hj => ?_)
          have a1 := T0 x j
          have a2 := T0 y j
          rw [e1 j hj] at a1
          have a3 : ((q + 2 : Nat) : Int) ∣ (W x).1 (fr j) - (W y).1 (fr j) := by
            obtain ⟨y1, hy1⟩ := mod_dvd ((W x).1 (fr j)) ((q + 2 : Nat) : Int)
            obtain ⟨y2, hy2⟩ := mod_dvd ((W y).1 (fr j)) ((q + 2 : Nat) : Int)
            exact ⟨y2 - y1, by grind⟩
          rw [← Int.sub_mul]
          exact Int.dvd_mul_of_dvd_left a3
        have := Int.dvd_sub (Int.dvd_add b1 b3) b2
        rw [show (W x).1 i - psum (fun t => (W x).1 (fr t) * zkr M' t i) F + (psum (fun t => (W x).1 (fr t) * zkr M' t i) F - psum (fun t => (W y).1 (fr t) * zkr M' t i) F) - ((W y).1 i - psum (fun t => (W y).1 (fr t) * zkr M' t i) F) = (W x).1 i - (W y).1 i by omega] at this
        exact this
      · rw [W1 x i (by omega), W1 y i (by omega)]
        exact ⟨0, by rw [Int.mul_zero]; rfl⟩)
    refine dig_inj p0 hx hy (fun i hi => ?_)
    refine nat_mod_eq (dig_lt p0) (dig_lt p0) ?_
    have a3 : dvp ((q + 2 : Nat) : Int) (P i) (plS (W y) (plX ((dig (q + 2) x i : Nat) : Int) 0)) := dvp_cg (W3 x i hi) (cg_S (cg_symm g1) cg_refl)
    exact loc_uniq hp (hu i hi) a3 (W3 y i hi)
  rcases Nat.lt_or_ge F r with c | c
  · have := Nat.pow_lt_pow_right (show 1 < q + 2 by omega) c
    omega
  · exact c
/-- where all the kernel's rows are numbers modulo all parts: no more rows than parts -/
theorem bkn_le {q n F r : Nat} {M' : zM} {P : Nat → Pl} (hp : prm ((q + 2 : Nat) : Int)) (hm : mon (prP 8 (M' 47)) n) (hn : n < 8) (h : bkn q n F M') (hF : ∀ w, dvp ((q + 2 : Nat) : Int) (prP 8 (M' 47)) w ↔ ∀ i, i < r → dvp ((q + 2 : Nat) : Int) (P i) w) (hk : ∀ t i, t < F → i < r → ∃ s : Nat, dvp ((q + 2 : Nat) : Int) (P i) (plS (prP 8 (M' (37 + t))) (plX s 0))) : F ≤ r := by
  obtain ⟨R, m, pv, fr, h1, h2, h3, h4, h5⟩ := h
  have p0 : 0 < q + 2 := by omega
  let V : Nat → Pl := fun x => plZ (fun j => plK ((dig (q + 2) x j : Nat) : Int) (prP 8 (M' (37 + j)))) F
  -- a number for each sum
  have hnum : ∀ (x i k : Nat), i < r → k ≤ F → ∃ z : Int, dvp ((q + 2 : Nat) : Int) (P i) (plS (plZ (fun j => plK ((dig (q + 2) x j : Nat) : Int) (prP 8 (M' (37 + j)))) k) (plX z 0)) := fun x i k hi => by
    induction k with
    | zero =>
      intro _
      exact ⟨0, dvp_0 (fun j => by
        show _ ∣ (if j = 0 then (0 : Int) else 0) - (if j = 0 then (0 : Int) else 0)
        exact ⟨0, by split <;> rfl⟩)⟩
    | succ k ih =>
      intro hkF
      obtain ⟨z, hz⟩ := ih (by omega)
      obtain ⟨s, hs⟩ := hk k i (by omega) hi
      refine ⟨z + ((dig (q + 2) x k : Nat) : Int) * s, ?_⟩
      have a1 : dvp ((q + 2 : Nat) : Int) (P i) (plM (plX ((dig (q + 2) x k : Nat) : Int) 0) (plS (prP 8 (M' (37 + k))) (plX s 0))) := dvp_Ml hs
      refine dvp_cg (dvp_A hz a1) (cg_eq (fun t => ?_))
      show ev (plS (plA (plZ (fun j => plK ((dig (q + 2) x j : Nat) : Int) (prP 8 (M' (37 + j)))) k) (plK ((dig (q + 2) x k : Nat) : Int) (prP 8 (M' (37 + k))))) (plX (z + ((dig (q + 2) x k : Nat) : Int) * s) 0)) t = _
      simp only [ev_S, ev_A, ev_M, ev_K, ev_X, Int.pow_zero]
      grind
  have hs : ∀ x i, ∃ s : Nat, s < q + 2 ∧ (i < r → dvp ((q + 2 : Nat) : Int) (P i) (plS (V x) (plX s 0))) := fun x i => by
    by_cases c : i < r
    · obtain ⟨z, hz⟩ := hnum x i F c (Nat.le_refl _)
      refine ⟨(z % ((q + 2 : Nat) : Int)).toNat, ?_, fun _ => ?_⟩
      · have a1 := Int.emod_nonneg z (show ((q + 2 : Nat) : Int) ≠ 0 by omega)
        have a2 := Int.emod_lt_of_pos z (show (0 : Int) < ((q + 2 : Nat) : Int) by omega)
        omega
      · rw [Int.toNat_of_nonneg (Int.emod_nonneg z (by omega))]
        refine dvp_num ?_ hz
        have := mod_dvd z ((q + 2 : Nat) : Int)
        rw [show z - z % ((q + 2 : Nat) : Int) = -(z % ((q + 2 : Nat) : Int) - z) by omega]
        exact Int.dvd_neg.mpr this
    · exact ⟨0, p0, fun d => absurd d c⟩
  let S : Nat → Nat → Nat := fun x i => (hs x i).choose
  have S1 : ∀ x i, S x i < q + 2 := fun x i => (hs x i).choose_spec.1
  have S2 : ∀ x i, i < r → dvp ((q + 2 : Nat) : Int) (P i) (plS (V x) (plX (S x i) 0)) := fun x i hi => (hs x i).choose_spec.2 hi
  have kz : ∀ t i, t < F → pr 8 (M' (37 + t)) i = zkr M' t i := fun t i ht => by
    unfold zkr
    rw [if_pos (by omega)]
  have dK : ∀ t, t < F → dl n (prP 8 (M' (37 + t))) := fun t ht i hi => by
    show pr 8 (M' (37 + t)) i = 0
    rcases Nat.lt_or_ge i 8 with c | c
    · rw [pr_lt c, (h4 t ht).2 i hi c]; rfl
    · exact pr_ge c
  have le1 : (q + 2) ^ F ≤ (q + 2) ^ r := by
    refine pigeon (g := fun x => enc (q + 2) (S x) r) (fun x _ => enc_lt p0 (S1 x) r) (fun x y hx hy e => ?_)
    have e1 := enc_inj p0 (S1 x) (S1 y) e
    have g1 : dvp ((q + 2 : Nat) : Int) (prP 8 (M' 47)) (plS (V x) (V y)) := (hF _).mpr (fun i hi => by
      have a1 := S2 x i hi
      have a2 := S2 y i hi
      rw [e1 i hi] at a1
      exact dvp_cg (dvp_S a1 a2) (cg_eq (fun t => by simp only [ev_S]; omega)))
    have g2 : zr ((q + 2 : Nat) : Int) (plS (V x) (V y)) := dvp_deg hp hm g1 (dl_S (dl_Z (fun j hj => dl_K (dK j hj))) (dl_Z (fun j hj => dl_K (dK j hj))))
    have cf : ∀ x i, i < F → (V x).1 (fr i) = ((dig (q + 2) x i : Nat) : Int) := fun x i hi => by
      show (plZ (fun j => plK ((dig (q + 2) x j : Nat) : Int) (prP 8 (M' (37 + j)))) F).1 (fr i) = _
      rw [co_Z, psum_one (k := i) hi (fun j hj hne => by
        show ((dig (q + 2) x j : Nat) : Int) * pr 8 (M' (37 + j)) (fr i) = 0
        rw [kz j _ hj, elim_krf h2 hj hi, if_neg hne, Int.mul_zero])]
      show ((dig (q + 2) x i : Nat) : Int) * pr 8 (M' (37 + i)) (fr i) = _
      rw [kz i _ hi, elim_krf h2 hi hi, if_pos rfl, Int.mul_one]
    refine dig_inj p0 hx hy (fun i hi => ?_)
    refine nat_mod_eq (dig_lt p0) (dig_lt p0) ?_
    have a3 : ((q + 2 : Nat) : Int) ∣ (V x).1 (fr i) - (V y).1 (fr i) := g2 (fr i)
    rw [cf x i hi, cf y i hi] at a3
    exact a3
  rcases Nat.lt_or_ge r F with c | c
  · have := Nat.pow_lt_pow_right (show 1 < q + 2 by omega) c
    omega
  · exact c
/-- the rows of the kernel are roots of v^p = v -/
theorem bkn_ker {q n F : Nat} {M' : zM} (hp : prm ((q + 2 : Nat) : Int)) (hm : mon (prP 8 (M' 47)) n) (hn : n < 8) (h : bkn q n F M') {t : Nat} (ht : t < F) : dvp ((q + 2 : Nat) : Int) (prP 8 (M' 47)) (plS (plP (prP 8 (M' (37 + t))) (q + 2)) (prP 8 (M' (37 + t)))) := by
  obtain ⟨R, m, pv, fr, h1, h2, h3, h4, h5⟩ := h
  have dK : dl n (prP 8 (M' (37 + t))) := fun i hi => by
    show pr 8 (M' (37 + t)) i = 0
    rcases Nat.lt_or_ge i 8 with c | c
    · rw [pr_lt c, (h4 t ht).2 i hi c]; rfl
    · exact pr_ge c
  refine (bz hp hm h1 dK).mpr (fun j => ?_)
  rw [co_Z]
  by_cases c : j < n
  · have := elim_A h2 (fun u => if u = t then 1 else 0) j c
    refine (Eq.mp ?_ this)
    congr 1
    refine psum_congr (fun i _ => ?_)
    show _ * (R i).1 j = pr 8 (M' (37 + t)) i * (R i).1 j
    congr 1
    rw [psum_one (k := t) ht (fun u _ hne => by rw [if_neg hne, Int.zero_mul]), if_pos rfl, Int.one_mul]
    unfold zkr
    rw [if_pos (by omega)]
  · refine psum_dvd (fun i hi => ?_)
    show _ ∣ _ * (R i).1 j
    rw [(h1 i hi).1 j (by omega), Int.mul_zero]
    exact ⟨0, (Int.mul_zero _).symm⟩
/-- the first row of the kernel is 1 -/
theorem bkn_one {q n F : Nat} {M' : zM} (hp : prm ((q + 2 : Nat) : Int)) (hm : mon (prP 8 (M' 47)) n) (hn : n < 8) (hn1 : 1 ≤ n) (h : bkn q n F M') : 0 < F ∧ cg ((q + 2 : Nat) : Int) (prP 8 (M' 37)) (plX 1 0) := by
  obtain ⟨R, m, pv, fr, h1, h2, h3, h4, h5⟩ := h
  have d1 : dl n (plX 1 0) := dl_X (by omega)
  have k1 : dvp ((q + 2 : Nat) : Int) (prP 8 (M' 47)) (plS (plP (plX 1 0) (q + 2)) (plX 1 0)) := by
    have e : plS (plP (plX 1 0) (q + 2)) (plX 1 0) = plX 0 0 := ev_ext (fun x => by rw [ev_S, ev_P, ev_X, ev_X, Int.pow_zero, Int.one_mul, Int.one_pow]; omega)
    rw [e]
    exact dvp_0 (fun i => by
      show _ ∣ (if i = 0 then (0 : Int) else 0)
      exact ⟨0, by split <;> rw [Int.mul_zero]⟩)
  have k2 : ∀ j, j < n → ((q + 2 : Nat) : Int) ∣ psum (fun i => (plX 1 0).1 i * (R i).1 j) n := fun j _ => by
    have := (bz hp hm h1 d1).mp k1 j
    rw [co_Z] at this
    exact this
  have b := elim_B h2 k2
  have x1 : ∀ i, (plX 1 0).1 i = if i = 0 then 1 else 0 := fun _ => rfl
  -- some row is free at 0
  have ex : ∃ t, t < F ∧ fr t = 0 := Classical.byContradiction (fun c => by
    have := b 0 (by omega)
    rw [psum_zero (fun t ht => by rw [x1, if_neg (fun e => c ⟨t, ht, e⟩), Int.zero_mul]), Int.sub_zero, x1, if_pos rfl] at this
    exact prm_1 hp this)
  obtain ⟨t, t1, t2⟩ := ex
  have t0 : t = 0 := by
    rcases Nat.eq_zero_or_pos t with e | e
    · exact e
    · have := h5 0 t e t1
      omega
  subst t0
  refine ⟨t1, cg_of (fun i => ?_)⟩
  show _ ∣ pr 8 (M' 37) i - (plX 1 0).1 i
  have kz : pr 8 (M' 37) i = zkr M' 0 i := by
    unfold zkr
    rw [if_pos (by omega)]
  by_cases c : i < n
  · have := b i c
    rw [psum_one (k := 0) t1 (fun u hu hne => by
      rw [x1, if_neg (fun e => hne (h2.2.2.2.2.1 u 0 hu t1 (by rw [e, t2]))), Int.zero_mul]), x1 (fr 0), if_pos t2, Int.one_mul] at this
    rw [kz]
    rw [show zkr M' 0 i - (plX 1 0).1 i = -((plX 1 0).1 i - zkr M' 0 i) by omega]
    exact Int.dvd_neg.mpr this
  · have e1 : pr 8 (M' 37) i = 0 := by
      rcases Nat.lt_or_ge i 8 with c8 | c8
      · rw [pr_lt c8, (h4 0 t1).2 i (by omega) c8]; rfl
      · exact pr_ge c8
    rw [e1, x1, if_neg (by omega)]
    exact ⟨0, by rw [Int.mul_zero]; rfl⟩
