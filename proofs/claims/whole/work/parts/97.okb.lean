/-! Bounds for the divisors of registers and of their derivatives; contents; nearest numbers. -/
def okb (A : Pl) : Prop := ∀ g h : Pl, (∀ x, ev A x = ev g x * ev h x) → ∀ e : Nat, h.1 e ≠ 0 → dl (e + 1) h → ∀ i, ab (g.1 i) * ab (h.1 e) ≤ 100000000
theorem okb_core {A : Pl} {n : Nat} {S H : Int} (hA : dl (n + 1) A) (h0 : ∃ i, A.1 i ≠ 0) (hS : nm A ≤ S) (hH : ∀ i, ab (A.1 i) ≤ H) (hH2 : H ≤ 100000000) (hb : (n ≤ 7 ∧ 43 * S ≤ 100000000) ∨ (n ≤ 6 ∧ 14 * S ≤ 100000000)) : okb A := by
  intro g h e k he hd i
  have eA : A = plM g h := ev_ext (fun x => by rw [ev_M]; exact e x)
  rcases pl_top g with c | ⟨d, d1, d2⟩
  · obtain ⟨j, hj⟩ := h0
    exact absurd (by rw [eA]; exact pmul_z c j) hj
  · have t := top_M d1 d2 he hd
    rw [← eA] at t
    have hdk : d + k ≤ n := by
      rcases Nat.lt_or_ge n (d + k) with q | q
      · exact absurd (hA _ q) t.1
      · exact q
    rw [eA] at hS
    by_cases hk : k = 0
    · subst hk
      have e2 : A.1 i = g.1 i * h.1 0 := by
        have e3 : A = plK (h.1 0) g := ev_ext (fun x => by
          rw [e x, ev_K, ev_of hd]
          show _ * (0 + h.1 0 * x ^ 0) = _
          rw [Int.pow_zero]
          grind)
        rw [e3]
        exact Int.mul_comm _ _
      rw [← ab_mul, ← e2]
      exact Int.le_trans (hH i) hH2
    · rcases hb with ⟨b1, b2⟩ | ⟨b1, b2⟩
      · exact Int.le_trans (bnd7 (D := d + 1) (by omega) (by omega) d2 hd hS i) b2
      · exact Int.le_trans (bnd6 (D := d + 1) (by omega) (by omega) d2 hd hS i) b2
theorem psum_c {c : Int} : ∀ n : Nat, psum (fun _ => c) n = n * c
  | 0 => by show (0 : Int) = ((0 : Nat) : Int) * c; rw [show ((0 : Nat) : Int) = 0 from rfl, Int.zero_mul]
  | n + 1 => by
    show psum (fun _ => c) n + c = ((n + 1 : Nat) : Int) * c
    rw [psum_c n, show ((n + 1 : Nat) : Int) = (n : Int) + 1 from rfl, Int.add_mul, Int.one_mul]
/-- a row with places up to 99999 -/
theorem nm_reg {A : Pl} (hA : dl 8 A) (hH : ∀ i, ab (A.1 i) ≤ 99999) : nm A ≤ 799992 := by
  rw [nm_of hA]
  refine Int.le_trans (psum_le (g := fun _ => 99999) (fun i _ => hH i)) ?_
  rw [psum_c]
  decide
theorem okb_reg {A : Pl} (hA : dl 8 A) (h0 : ∃ i, A.1 i ≠ 0) (hH : ∀ i, ab (A.1 i) ≤ 99999) : okb A :=
  okb_core (n := 7) hA h0 (nm_reg hA hH) hH (by decide) (Or.inl ⟨by decide, by decide⟩)
/-- a row whose place i is up to i + 1 times 99999 -/
theorem nm_slope {A : Pl} (hA : dl 7 A) (hH : ∀ i : Nat, ab (A.1 i) ≤ (i + 1) * 99999) : nm A ≤ 2799972 := by
  rw [nm_of hA]
  refine Int.le_trans (psum_le (g := fun i => ((i : Int) + 1) * 99999) (fun i _ => hH i)) ?_
  decide
theorem okb_slope {A : Pl} (hA : dl 7 A) (h0 : ∃ i, A.1 i ≠ 0) (hH : ∀ i : Nat, ab (A.1 i) ≤ (i + 1) * 99999) : okb A :=
  okb_core (n := 6) (H := 699993) hA h0 (nm_slope hA hH) (fun i => by
    by_cases c : i < 7
    · have := hH i
      omega
    · rw [hA i (by omega)]; decide) (by decide) (Or.inr ⟨by decide, by decide⟩)
/-! the greatest common divisor from A and B on -/
/-- all that is wanted of two rows: both not 0, bounded, their greatest common divisor -/
def gok (A B G a b : Pl) (n m g : Nat) : Prop := gz A B G a b ∧ A.1 n ≠ 0 ∧ dl (n + 1) A ∧ B.1 m ≠ 0 ∧ dl (m + 1) B ∧ 0 < G.1 g ∧ dl (g + 1) G ∧ n ≤ 7 ∧ m ≤ 7 ∧ okb A ∧ okb B ∧ ab (A.1 n) ≤ 699993 ∧ ab (B.1 m) ≤ 699993 ∧ nm A ^ (m - g) * nm B ^ (n - g) < lprod (bigC.map (fun p : Nat => (p : Int))) ∧ nm A ^ (m - g) * nm B ^ (n - g) < lprod (bigM.map (fun p : Nat => (p : Int)))
theorem bigC_d : dst (bigC.map (fun p : Nat => (p : Int))) := by
  unfold bigC
  simp only [List.map, dst, lprod]
  decide +kernel
theorem bigM_d : dst (bigM.map (fun p : Nat => (p : Int))) := by
  unfold bigM
  simp only [List.map, dst, lprod]
  decide +kernel
theorem big_nd {p : Nat} {x : Int} (hp : 1000000000 ≤ p) (h0 : x ≠ 0) (hx : ab x ≤ 699993) : ¬ (p : Int) ∣ x := fun c => by
  have h1 : (p : Int) ∣ ab x := Int.dvd_natAbs.mpr c
  have h2 : 0 < ab x := by unfold ab; omega
  have := Int.le_of_dvd h2 h1
  omega
theorem bigC_lo : ∀ p, p ∈ bigC → 1000000000 ≤ p ∧ p < 2 ^ 31 := by decide
theorem bigM_lo : ∀ p, p ∈ bigM → 1000000000 ≤ p ∧ p < 2 ^ 31 := by decide
theorem gok_good {A B G a b : Pl} {n m g : Nat} (h : gok A B G a b n m g) {ps : List Nat} (hp : ∀ p, p ∈ ps → prm (p : Int)) (hl : ∀ p, p ∈ ps → 1000000000 ≤ p ∧ p < 2 ^ 31) (hd : dst (ps.map (fun p : Nat => (p : Int)))) (hb : nm A ^ (m - g) * nm B ^ (n - g) < lprod (ps.map (fun p : Nat => (p : Int)))) : g ≤ n ∧ g ≤ m ∧ ∃ p, p ∈ ps ∧ ∀ D d, eg (p : Int) A B D d → d = g := by
  obtain ⟨hz, A1, A2, B1, B2, G1, G2, n7, m7, _, _, la, lb, _, _⟩ := h
  obtain ⟨g1, g2, p, hp1, hp2⟩ := goodp hz A1 A2 B1 B2 (by omega) G2 (Int.le_refl _) (Int.le_refl _) hd (fun p hpm => by
    obtain ⟨q, q1, q2⟩ := List.mem_map.mp hpm
    rw [← q2]
    exact ⟨hp q q1, big_nd (hl q q1).1 A1 la, big_nd (hl q q1).1 B1 lb⟩) hb
  obtain ⟨q, q1, q2⟩ := List.mem_map.mp hp1
  refine ⟨g1, g2, q, q1, fun D d hD => hp2 D d (by rw [← q2]; exact hD)⟩
/-- the leading number of G divides those of A and B; the quotients are bounded -/
theorem gok_lead {A B G a b : Pl} {n m g : Nat} (h : gok A B G a b n m g) : G.1 g ∣ A.1 n ∧ G.1 g ∣ B.1 m ∧ (∃ k, a.1 k ≠ 0 ∧ dl (k + 1) a ∧ g + k = n ∧ G.1 g * a.1 k = A.1 n) ∧ (∃ k, b.1 k ≠ 0 ∧ dl (k + 1) b ∧ g + k = m ∧ G.1 g * b.1 k = B.1 m) := by
  obtain ⟨hz, A1, A2, B1, B2, G1, G2, _⟩ := h
  have key : ∀ (A a : Pl) (n : Nat), A.1 n ≠ 0 → dl (n + 1) A → (∀ x, ev A x = ev G x * ev a x) → ∃ k, a.1 k ≠ 0 ∧ dl (k + 1) a ∧ g + k = n ∧ G.1 g * a.1 k = A.1 n := fun A a n A1 A2 hA => by
    have eA : A = plM G a := ev_ext (fun x => by rw [ev_M]; exact hA x)
    rcases pl_top a with f | ⟨k, f1, f2⟩
    · exfalso
      refine A1 ?_
      rw [eA]
      show pmul G.1 a.1 n = 0
      rw [pmul_comm]
      exact pmul_z f n
    · have t := top_M (by omega) G2 f1 f2
      rw [← eA] at t
      have e := top_u t.1 t.2 A1 A2
      refine ⟨k, f1, f2, e, ?_⟩
      rw [← e]
      have := plM_top G2 f2
      rw [← eA] at this
      exact this.symm
  have ka := key A a n A1 A2 hz.2.1
  have kb := key B b m B1 B2 hz.2.2.1
  obtain ⟨k, _, _, _, k4⟩ := ka
  obtain ⟨l, _, _, _, l4⟩ := kb
  exact ⟨⟨_, k4.symm⟩, ⟨_, l4.symm⟩, key A a n A1 A2 hz.2.1, key B b m B1 B2 hz.2.2.1⟩
theorem ab_ge1 {x y : Int} (hy : y ≠ 0) : ab x ≤ ab x * ab y := by
  have : ab x * 1 ≤ ab x * ab y := Int.mul_le_mul_of_nonneg_left (by unfold ab; omega) (ab_nn x)
  omega
/-- the divisor itself, times what the lead holds more, and both quotients -/
theorem gok_b {A B G a b : Pl} {n m g : Nat} (h : gok A B G a b n m g) : (∀ (l i : Nat) , G.1 g * l ∣ A.1 n → ab (l * G.1 i) ≤ 100000000) ∧ (∀ i, ab (G.1 i) ≤ 100000000) ∧ (∀ i, ab (a.1 i) ≤ 100000000) ∧ ∀ i, ab (b.1 i) ≤ 100000000 := by
  obtain ⟨_, _, ⟨k, k1, k2, k3, k4⟩, l, l1, l2, l3, l4⟩ := gok_lead h
  obtain ⟨hz, A1, A2, B1, B2, G1, G2, n7, m7, oa, ob, _⟩ := h
  have h1 := oa G a hz.2.1 k k1 k2
  have h2 := oa a G (fun x => by rw [hz.2.1 x, Int.mul_comm]) g (by omega) G2
  have h3 := ob b G (fun x => by rw [hz.2.2.1 x, Int.mul_comm]) g (by omega) G2
  refine ⟨fun l i hl => ?_, fun i => ?_, fun i => ?_, fun i => ?_⟩
  · have e : (l : Int) ∣ a.1 k := by
      obtain ⟨y, hy⟩ := hl
      refine ⟨y, Int.eq_of_mul_eq_mul_left (a := G.1 g) (by omega) ?_⟩
      rw [k4, hy, Int.mul_assoc]
    have h4 : ab l ≤ ab (a.1 k) := Int.le_of_dvd (by unfold ab; omega) (by
      unfold ab
      exact Int.natAbs_dvd_natAbs.mpr e |> Int.ofNat_dvd.mpr)
    rw [ab_mul]
    have h5 := Int.mul_le_mul_of_nonneg_right h4 (ab_nn (G.1 i))
    have h6 := h1 i
    rw [Int.mul_comm] at h6
    omega
  · exact Int.le_trans (ab_ge1 k1) (h1 i)
  · exact Int.le_trans (ab_ge1 (by omega)) (h2 i)
  · exact Int.le_trans (ab_ge1 (by omega)) (h3 i)
/-- two numbers alike modulo p, both near 0 -/
theorem near_eq {p x y : Int} (h : p ∣ x - y) (hx : ab x < p - ab y) : x = y := by
  rcases Int.lt_trichotomy (x - y) 0 with c | c | c
  · have := Int.le_of_dvd (show 0 < -(x - y) by omega) (Int.dvd_neg.mpr h)
    unfold ab at hx
    omega
  · omega
  · have := Int.le_of_dvd c h
    unfold ab at hx
    omega
theorem eg_cg {p : Int} {A B A' B' D : Pl} {d : Nat} (h : eg p A' B' D d) (ha : cg p A' A) (hb : cg p B' B) : eg p A B D d := by
  obtain ⟨h1, h2, ⟨u, v, h3⟩, ⟨a, h4⟩, b, h5⟩ := h
  exact ⟨h1, h2, ⟨u, v, cg_trans h3 (cg_A (cg_M cg_refl ha) (cg_M cg_refl hb))⟩, ⟨a, cg_trans (cg_symm ha) h4⟩, b, cg_trans (cg_symm hb) h5⟩
