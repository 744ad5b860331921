/-! What sets of parts say of divisors. -/
def cst (p : Int) (c n : Nat) (dg : Nat → Nat) (l : Int) (O : Pl) (P : Nat → Pl) : Prop := prm p ∧ (∀ i, i < c → irr p (P i) (dg i)) ∧ dsum dg c = n ∧ pwc p P c ∧ cg p O (plM (plX l 0) (plQ P c)) ∧ sqf p O ∧ (¬ p ∣ l) ∧ O.1 n = l ∧ dl (n + 1) O
theorem cst_nz {p : Int} {c n : Nat} {dg : Nat → Nat} {l : Int} {O : Pl} {P : Nat → Pl} (h : cst p c n dg l O P) : O.1 n ≠ 0 := fun e => by
  obtain ⟨_, _, _, _, _, _, h7, h8, _⟩ := h
  rw [e] at h8
  exact h7 ⟨0, by rw [Int.mul_zero]; exact h8.symm⟩
theorem cst_top {p : Int} {c n : Nat} {dg : Nat → Nat} {l : Int} {O g h : Pl} {P : Nat → Pl} (hc : cst p c n dg l O P) (e : ∀ x, ev O x = ev g x * ev h x) : ∃ k m, k + m = n ∧ g.1 k ≠ 0 ∧ dl (k + 1) g ∧ h.1 m ≠ 0 ∧ dl (m + 1) h ∧ g.1 k * h.1 m = l ∧ (¬ p ∣ g.1 k) ∧ ¬ p ∣ h.1 m := by
  have h0 := cst_nz hc
  obtain ⟨_, _, _, _, _, _, h7, h8, h9⟩ := hc
  obtain ⟨k, m, km, k1, k2, m1, m2, kk⟩ := dvz_top h0 h9 e
  rw [h8] at kk
  refine ⟨k, m, km, k1, k2, m1, m2, kk, fun d => h7 ?_, fun d => h7 ?_⟩
  · rw [← kk]; exact Int.dvd_mul_of_dvd_left d
  · rw [← kk]; exact Int.dvd_mul_of_dvd_right d
theorem msk_ex (p : Int) (P : Nat → Pl) (c : Nat) (g : Pl) : ∃ T, T < 2 ^ c ∧ ∀ i, i < c → (dig 2 T i = 1 ↔ dvp p (P i) g) := by
  have dec : ∀ i, Decidable (dvp p (P i) g) := fun i => Classical.propDecidable _
  have hf : ∀ i, (fun i => if dvp p (P i) g then 1 else 0) i < 2 := fun i => by show (if _ then 1 else 0) < 2; split <;> decide
  refine ⟨enc 2 (fun i => if dvp p (P i) g then 1 else 0) c, enc_lt (by decide) hf c, fun i hi => ?_⟩
  rw [dig_enc (by decide) hf hi]
  by_cases h : dvp p (P i) g
  · rw [if_pos h]; exact ⟨fun _ => h, fun _ => rfl⟩
  · rw [if_neg h]; exact ⟨fun x => absurd x (by decide), fun x => absurd x h⟩
theorem dig2_0 {S i : Nat} (h : ¬ dig 2 S i = 1) : dig 2 S i = 0 := by
  have := dig_lt (p := 2) (x := S) (i := i) (by decide)
  omega
theorem msk_le {p : Int} {P : Nat → Pl} {c S T : Nat} {g : Pl} (hT : T < 2 ^ c) (hi : ∀ i, i < c → (dig 2 T i = 1 ↔ dvp p (P i) g)) (h : ∀ i, i < c → dvp p (P i) g → dig 2 S i = 1) : T ≤ S := dig_le hT (fun i hi' => by
  by_cases e : dig 2 T i = 1
  · rw [e, h i hi' ((hi i hi').mp e)]; exact Nat.le_refl _
  · rw [dig2_0 e]; exact Nat.zero_le _)
theorem cst_deg {p : Int} {c n k S : Nat} {dg : Nat → Nat} {l : Int} {O g : Pl} {P : Nat → Pl} (hc : cst p c n dg l O P) (dg' : dvz g O) (g1 : g.1 k ≠ 0) (g2 : dl (k + 1) g) (hS : ∀ i, i < c → (dig 2 S i = 1 ↔ dvp p (P i) g)) : dB (bS S) dg c = k := by
  obtain ⟨h, hh⟩ := dg'
  obtain ⟨k', m, km, k1, k2, m1, m2, kk, a1, a2⟩ := cst_top hc hh
  have := top_u k1 k2 g1 g2
  subst this
  obtain ⟨c1, c2, c3, c4, c5, _⟩ := hc
  exact (part_of c1 c2 c3 c4 c5 hh a1 k2 a2 m2 km (fun i hi => by rw [bS_t]; exact hS i hi)).1
theorem cst_lift {p : Int} {c n k S s : Nat} {dg : Nat → Nat} {l : Int} {O g : Pl} {P A : Nat → Pl} (hc : cst p c n dg l O P) (hA : ∀ i, i < c → mon (A i) (dg i) ∧ cg p (A i) (P i)) (hOm : cg (p ^ (s + 1)) O (plM (plX l 0) (plQ A c))) (dg' : dvz g O) (g1 : g.1 k ≠ 0) (g2 : dl (k + 1) g) (hS : ∀ i, i < c → (dig 2 S i = 1 ↔ dvp p (P i) g)) : cg (p ^ (s + 1)) g (plK (g.1 k) (plB (bS S) A c)) := by
  obtain ⟨h, hh⟩ := dg'
  obtain ⟨k', m, km, k1, k2, m1, m2, kk, a1, a2⟩ := cst_top hc hh
  have := top_u k1 k2 g1 g2
  subst this
  obtain ⟨c1, c2, c3, c4, c5, c6, _⟩ := hc
  exact (part_lift c1 c2 c3 c4 c6 c5 hA hOm hh a1 k2 a2 m2 km (fun i hi => by rw [bS_t]; exact hS i hi)).2
theorem dvz_dvp {p : Int} {g a b : Pl} (h : dvz a b) (d : dvp p g a) : dvp p g b := by
  obtain ⟨q, hq⟩ := h
  exact dvp_cg (dvp_Mr (c := q) d) (cg_eq (fun x => by rw [ev_M, hq x]))
theorem cst_two {p : Int} {c n i : Nat} {dg : Nat → Nat} {l : Int} {O X C Y : Pl} {P : Nat → Pl} (hc : cst p c n dg l O P) (hX : dvz X O) (e : ∀ x, ev X x = ev C x * ev Y x) (hi : i < c) (h1 : dvp p (P i) C) (h2 : dvp p (P i) Y) : False := by
  obtain ⟨c1, c2, c3, c4, c5, c6, _⟩ := hc
  obtain ⟨r, hr⟩ := hX
  exact sqf_irr c1 c6 (a := C) (b := Y) ⟨r, cg_eq (fun x => by rw [ev_M, ev_M, hr x, e x])⟩ (c2 i hi) h1 h2
theorem set_pos {c S : Nat} (h0 : S ≠ 0) (hS : S < 2 ^ c) : ∃ i, i < c ∧ dig 2 S i = 1 := Classical.byContradiction (fun h => h0 (by
  refine Nat.le_zero.mp (dig_le hS (fun i hi => ?_))
  rw [dig2_0 (fun x => h ⟨i, hi, x⟩)]
  exact Nat.zero_le _))
theorem set_in {c S i : Nat} (hS : S < 2 ^ c) (h : dig 2 S i = 1) : i < c := Nat.not_le.mp (fun hci => by
  have : S / 2 ^ i = 0 := Nat.div_eq_of_lt (Nat.lt_of_lt_of_le hS (Nat.pow_le_pow_right (by decide) hci))
  have h' : S / 2 ^ i % 2 = 1 := h
  rw [this] at h'
  exact absurd h' (by decide))
theorem dB_one {b : Nat → Bool} {dg : Nat → Nat} {i : Nat} (hb : b i = true) : ∀ {c : Nat}, i < c → dg i ≤ dB b dg c
  | 0, h => absurd h (Nat.not_lt_zero _)
  | c + 1, h => by
    have h2 := dB_mono (b := b) (dg := dg) (show i + 1 ≤ c + 1 by omega)
    rw [dB_t hb] at h2
    omega
/-- what the candidate of a set that divides says -/
theorem cst_cand {p : Int} {c n d S : Nat} {dg : Nat → Nat} {l l' r : Int} {O Oc C Y On : Pl} {P : Nat → Pl} (hc : cst p c n dg l O P) (hOc : dvz Oc O) (e : ∀ x, ev Oc x = ev C x * ev On x) (hY : cg p Y (plK l' (plB (bS S) P c))) (hl : ¬ p ∣ l') (hr : ∀ i, Y.1 i = r * C.1 i) (hd : Y.1 d = l') : ∀ i, i < c → (dvp p (P i) C ↔ dig 2 S i = 1) := by
  intro i hi
  obtain ⟨c1, c2, c3, c4, _⟩ := hc
  have hpr : ¬ p ∣ r := fun x => hl (by rw [← hd, hr d]; exact Int.dvd_mul_of_dvd_left x)
  have eY : Y = plK r C := pl_ext hr
  have hcg : cg p (plM (plX r 0) C) (plM (plX l' 0) (plB (bS S) P c)) := by
    refine cg_trans (cg_eq (fun x => ?_)) (cg_trans hY (cg_eq (fun x => ?_)))
    · rw [eY, ev_M, ev_X, ev_K, Int.pow_zero, Int.mul_one]
    · rw [ev_M, ev_X, ev_K, Int.pow_zero, Int.mul_one]
  constructor
  · intro h
    refine Classical.byContradiction (fun hb => ?_)
    have h1 : dvp p (P i) (plM (plX l' 0) (plB (bS S) P c)) := dvp_cg (dvp_Ml h) (cg_symm hcg)
    rcases irr_prime c1 (c2 i hi) h1 with x | x
    · exact irr_num c1 (c2 i hi) hl x
    · exact irr_nun c1 (c2 i hi) (cop_dvp1 (B_cop c4 hi (fun y => hb (bS_t.mp y)) (Nat.le_refl _)) dvp_refl x)
  · intro h
    have h1 : dvp p (P i) (plM (plX r 0) C) := dvp_cg (dvp_Ml (B_dvp (bS_t.mpr h) hi)) hcg
    rcases irr_prime c1 (c2 i hi) h1 with x | x
    · exact absurd x (irr_num c1 (c2 i hi) hpr)
    · exact x
/-- the bound for candidates -/
theorem cst_bnd {W Oc g h : Pl} {w k m : Nat} (hW : wld W w) (dO : dvz Oc W) (e : ∀ x, ev Oc x = ev g x * ev h x) (g2 : dl 4 g) (m1 : h.1 m ≠ 0) (m2 : dl (m + 1) h) (i : Nat) : ab (h.1 m * g.1 i) ≤ 883167 := by
  obtain ⟨v, hv⟩ := dO
  have h7 := hW.2.2.2.2.1
  have hw1 := hW.2.1
  obtain ⟨a, b, ab1, a1, a2, b1, b2, _⟩ := dvz_top (a := plM g h) (q := v) (by omega) hW.2.2.1 (fun x => by rw [hv x, e x, ev_M])
  have t := top_M m1 m2 b1 b2
  have tt := plM_top m2 b2
  have := bnd3 (f := W) (g := g) (h := plM h v) (m := m + b) (dl_mono (by omega) hW.2.2.1) hW.2.2.2.2.2 ⟨w, by omega⟩ g2 t.2 t.1 (fun x => by rw [hv x, e x, ev_M, Int.mul_assoc]) i
  rw [tt, ab_mul] at this
  rw [ab_mul, Int.mul_comm]
  have p1 := ab_pos b1
  have p2 := ab_nn (g.1 i)
  have p3 := ab_nn (h.1 m)
  have p4 : ab (g.1 i) * (ab (h.1 m) * 1) ≤ ab (g.1 i) * (ab (h.1 m) * ab (v.1 b)) := Int.mul_le_mul_of_nonneg_left (Int.mul_le_mul_of_nonneg_left p1 p3) p2
  rw [Int.mul_one] at p4
  omega
/-- p^s beyond 1.7 million is beyond twice the bound -/
theorem pow17 : ∀ p, p ∈ smP → ∀ s, s < 30 → 1700000 ≤ p ^ (s + 1) → 1766335 ≤ p ^ (s + 1) := by decide +kernel
