/-! The class's common divisor modulo p. -/
theorem s_makeMonic {K : zM → Prop} {a0 d q : Nat} {M : zM} (h0 : zlong a0 = 8) (hp : prm ((q + 2 : Nat) : Int)) (p1 : q + 2 < 2 ^ 31) (ha : zrw (q + 2) 8 (M a0)) (hl : zdg (M a0) 8 = d + 1)
    (k : ∀ (M' : zM) (v : Int), (∀ a, a ≠ a0 → M' a = M a) → ((q + 2 : Nat) : Int) ∣ (M a0 d).toInt * v - 1 → (∀ i, i < 8 → (M' a0 i).toInt = ((M a0 i).toInt * v) % (q + 2 : Nat)) → K M') : w_Re_makeMonic a0 (lN (q + 2)) M K := by
  obtain ⟨g1, g2, g3⟩ := zdg_s hl
  obtain ⟨q1, q2, q3, q4⟩ := z_lNp (P := q + 2) (by omega) p1
  refine s_Ro_degreeOf h0 (by decide) (by decide) ?_
  rw [hl, pk_m1]
  refine ⟨fun _ => ⟨by rw [h0]; exact vp_in_nI g1 (by decide), ?_⟩, fun h => absurd (nI_pos' (by omega)) h⟩
  rw [nI_clamp (by omega)]
  have hbl := ha d g1
  refine s_inverseOf p1 hbl.1 hbl.2 (fun v v0 v1 hv => ?_)
  have hnd : ¬ ((q + 2 : Nat) : Int) ∣ (M a0 d).toInt := fun c => by
    have h3 : (M a0 d).toInt ≠ 0 := fun e => g2 (by rw [← Int64.toInt_inj, e]; rfl)
    have := Int.le_of_dvd (by omega) c
    omega
  have hvi : ((q + 2 : Nat) : Int) ∣ (M a0 d).toInt * v.toInt - 1 := by
    obtain ⟨y, hy⟩ := hv
    obtain ⟨z, hz⟩ := fermat_inv hp hnd
    exact ⟨(M a0 d).toInt * y + z, by grind⟩
  have key : ∀ e j (M1 : zM), j + e = 8 → (∀ a, a ≠ a0 → M1 a = M a) → (∀ i, i < j → (M1 a0 i).toInt = ((M a0 i).toInt * v.toInt) % (q + 2 : Nat)) → (∀ i, j ≤ i → M1 a0 i = M a0 i) → ∃ n, L_Re_makeMonic_25 K a0 (lN (q + 2)) v n (nI j) M1 := by
    intro e
    induction e with
    | zero =>
      intro j M1 hj f1 f2 f3
      have : j = 8 := by omega
      subst this
      exact ⟨1, ⟨fun _ => k M1 v.toInt f1 hvi f2, fun h => absurd (by decide) h⟩⟩
    | succ e ih =>
      intro j M1 hj f1 f2 f3
      have hx := ha j (by omega)
      obtain ⟨m1, m2, m3⟩ := z_mulp p1 hx.1 hx.2 v0 v1
      obtain ⟨n, hn⟩ := ih (j + 1) (zput M1 a0 j (zrs (M1 a0 j * v) (lN (q + 2)))) (by omega) (fun a ha => by rw [zput_ne ha]; exact f1 a ha) (fun i hi => by
        by_cases e : i = j
        · subst e
          rw [zput_eq, f3 i (Nat.le_refl _), zrs_e q2 (by rw [m1]; omega), m1, q1]
        · rw [zput_n2 e]; exact f2 i (by omega)) (fun i hi => by
        rw [zput_n2 (by omega)]; exact f3 i (by omega))
      refine ⟨n + 1, ⟨fun h => absurd h (nI_ge (b := 8) (by omega) (by decide)), fun _ => ⟨by rw [h0]; exact vp_in_nI (by omega) (by decide), ?_⟩⟩⟩
      rw [nI_clamp (by omega), nI_1]
      refine s_residue q3 ⟨by rw [h0]; exact vp_in_nI (by omega) (by decide), fun M4 e4 => ?_⟩
      rw [e4]
      exact hn
  exact key 8 0 M (by omega) (fun _ _ => rfl) (fun i hi => by omega) (fun _ _ => rfl)
/-- Euclid under way: both rows are made of A and B, and what divides both divides A and B -/
def euc (p : Int) (A B H L : Pl) : Prop := (∃ u v, cg p H (plA (plM u A) (plM v B))) ∧ (∃ u v, cg p L (plA (plM u A) (plM v B))) ∧ ∀ D, dvp p D H → dvp p D L → dvp p D A ∧ dvp p D B
theorem euc_0 {p : Int} {A B : Pl} : euc p A B A B :=
  ⟨⟨plX 1 0, plX 0 0, cg_eq (fun x => by simp only [ev_A, ev_M, ev_X, Int.pow_zero]; grind)⟩, ⟨plX 0 0, plX 1 0, cg_eq (fun x => by simp only [ev_A, ev_M, ev_X, Int.pow_zero]; grind)⟩, fun _ h g => ⟨h, g⟩⟩
theorem euc_step {p : Int} {A B H L Q R : Pl} (h : euc p A B H L) (g : cg p H (plA (plM Q L) R)) : euc p A B L R := by
  obtain ⟨⟨u, v, h1⟩, ⟨s, t, h2⟩, h3⟩ := h
  refine ⟨⟨s, t, h2⟩, ⟨plS u (plM Q s), plS v (plM Q t), ?_⟩, fun D d1 d2 => h3 D (dvp_cg (dvp_A (dvp_Ml d1) d2) g) d1⟩
  have e1 : cg p R (plS H (plM Q L)) := by
    obtain ⟨r, hr⟩ := g
    exact ⟨plK (-1) r, fun x => by have := hr x; simp only [ev_A, ev_M, ev_S, ev_K] at this ⊢; grind⟩
  exact cg_trans e1 (cg_trans (cg_S h1 (cg_M cg_refl h2)) (cg_eq (fun x => by simp only [ev_A, ev_M, ev_S]; grind)))
theorem minv_cg {P : Int} {f g r s : Nat → Int64} {low : Nat} (h : minv P (pr 8 f) (pr 8 g) low 0 (pr 8 r) (pr 8 s)) : cg P (prP 8 f) (plA (plM (prP 8 s) (prP 8 g)) (prP 8 r)) := cg_of h.2.2
theorem zr_row {P : Nat} {f : Nat → Int64} (h : zrw P 8 f) (z : zr P (prP 8 f)) : zdg f 8 = 0 := by
  rcases Nat.eq_zero_or_pos (zdg f 8) with e | e
  · exact e
  · exfalso
    obtain ⟨g1, g2, _⟩ := zdg_s (f := f) (n := 8) (d := zdg f 8 - 1) (by omega)
    have h1 := z (zdg f 8 - 1)
    have h2 := h _ g1
    have h3 : (prP 8 f).1 (zdg f 8 - 1) = (f (zdg f 8 - 1)).toInt := pr_lt g1
    rw [h3] at h1
    have h4 : (f (zdg f 8 - 1)).toInt ≠ 0 := fun e => g2 (by rw [← Int64.toInt_inj, e]; rfl)
    have := Int.le_of_dvd (by omega) h1
    omega
theorem row_0 {p : Int} {f : Nat → Int64} (h : zdg f 8 = 0) : zr p (prP 8 f) := fun i => by
  show p ∣ pr 8 f i
  rcases Nat.lt_or_ge i 8 with g | g
  · rw [pr_lt g, zdg_0 h i g]; exact ⟨0, (Int.mul_zero p).symm⟩
  · rw [pr_ge g]; exact ⟨0, (Int.mul_zero p).symm⟩
theorem row_mt {P : Nat} {f : Nat → Int64} {d : Nat} (h : zrw P 8 f) (z : zdg f 8 = d + 1) : mt P (prP 8 f) d := by
  obtain ⟨g1, g2, g3⟩ := zdg_s z
  refine ⟨fun c => ?_, fun i hi => ?_⟩
  · have h3 : (prP 8 f).1 d = (f d).toInt := pr_lt g1
    rw [h3] at c
    have h2 := h d g1
    have h4 : (f d).toInt ≠ 0 := fun e => g2 (by rw [← Int64.toInt_inj, e]; rfl)
    have := Int.le_of_dvd (by omega) c
    omega
  · show (P : Int) ∣ pr 8 f i
    rcases Nat.lt_or_ge i 8 with g | g
    · rw [pr_lt g, g3 i hi g]; exact ⟨0, (Int.mul_zero _).symm⟩
    · rw [pr_ge g]; exact ⟨0, (Int.mul_zero _).symm⟩
theorem s_commonOf {K : Nat → zM → Prop} {a0 a1 a2 q : Nat} {M : zM} (h0 : zlong a0 = 8) (h1 : zlong a1 = 8) (h2 : zlong a2 = 8) (n01 : a0 ≠ a1) (n02 : a0 ≠ a2) (n12 : a1 ≠ a2) (hp : prm ((q + 2 : Nat) : Int)) (p1 : q + 2 < 2 ^ 31) (ha : zrw (q + 2) 8 (M a0)) (hb : zrw (q + 2) 8 (M a1)) (hA : zdg (M a0) 8 ≠ 0)
    (k : ∀ (r d : Nat) (M' : zM), (r = a0 ∨ r = a1) → d < 8 → (∀ a, a ≠ a0 → a ≠ a1 → a ≠ a2 → M' a = M a) → zrw (q + 2) 8 (M' r) → zdg (M' r) 8 = d + 1 → eg ((q + 2 : Nat) : Int) (prP 8 (M a0)) (prP 8 (M a1)) (prP 8 (M' r)) d → K r M') : w_Re_commonOf a0 a1 a2 (lN (q + 2)) M K := by
  have fin : ∀ (h l : Nat) (M1 : zM), (h = a0 ∨ h = a1) → (∀ a, a ≠ a0 → a ≠ a1 → a ≠ a2 → M1 a = M a) → zrw (q + 2) 8 (M1 h) → zdg (M1 l) 8 = 0 → euc ((q + 2 : Nat) : Int) (prP 8 (M a0)) (prP 8 (M a1)) (prP 8 (M1 h)) (prP 8 (M1 l)) → J_Re_commonOf_51 K (lN (q + 2)) h M1 := by
    intro h l M1 hh hfr rh hl hE
    obtain ⟨⟨u, v, e1⟩, _, e3⟩ := hE
    obtain ⟨da, db⟩ := e3 (prP 8 (M1 h)) dvp_refl (dvp_0 (row_0 hl))
    have hn : zdg (M1 h) 8 ≠ 0 := fun c => hA (by
      obtain ⟨y, hy⟩ := da
      refine zr_row ha (zr_cg hy ?_)
      have := zr_M (a := y) (row_0 (p := ((q + 2 : Nat) : Int)) c)
      exact zr_cg (cg_eq (fun x => by rw [ev_M, ev_M, Int.mul_comm])) this)
    obtain ⟨d, hd⟩ : ∃ d, zdg (M1 h) 8 = d + 1 := ⟨zdg (M1 h) 8 - 1, by omega⟩
    obtain ⟨g1, g2, g3⟩ := zdg_s hd
    have hh8 : zlong h = 8 := by rcases hh with e | e <;> rw [e] <;> assumption
    refine s_makeMonic hh8 hp p1 rh hd (fun M' w f1 f2 f3 => ?_)
    have hpz : (0 : Int) < ((q + 2 : Nat) : Int) := by omega
    have lead : (M' h d).toInt = 1 := by
      rw [f3 d g1]
      obtain ⟨y, hy⟩ := f2
      rw [show (M1 h d).toInt * w = 1 + ((q + 2 : Nat) : Int) * y by omega, Int.add_mul_emod_self_left, Int.emod_eq_of_lt (by decide) (by omega)]
    have zero : ∀ i, d < i → i < 8 → M' h i = 0 := fun i a b => by
      rw [← Int64.toInt_inj, f3 i b, g3 i a b]
      show (0 * w) % _ = (0 : Int)
      rw [Int.zero_mul, Int.zero_emod]
    have hz' : zdg (M' h) 8 = d + 1 := by
      rw [zdg_up (n := d + 1) (by omega) (fun i a b => zero i (by omega) b)]
      show (if M' h d = 0 then zdg (M' h) d else d + 1) = _
      rw [if_neg (fun e => by rw [e] at lead; exact absurd lead (by decide))]
    have rr' : zrw (q + 2) 8 (M' h) := fun i hi => by rw [f3 i hi]; exact z_emod (by omega) _
    have c1 : cg ((q + 2 : Nat) : Int) (prP 8 (M' h)) (plK w (prP 8 (M1 h))) := cg_of (fun i => by
      show _ ∣ pr 8 (M' h) i - w * pr 8 (M1 h) i
      rcases Nat.lt_or_ge i 8 with g | g
      · rw [pr_lt g, pr_lt g, f3 i g, Int.mul_comm w]
        exact mod_dvd _ _
      · rw [pr_ge g, pr_ge g, Int.mul_zero]
        exact ⟨0, (Int.mul_zero _).symm⟩)
    have dv : dvp ((q + 2 : Nat) : Int) (prP 8 (M' h)) (prP 8 (M1 h)) := by
      obtain ⟨y, hy⟩ := f2
      refine ⟨plX ((M1 h d).toInt) 0, ?_⟩
      refine cg_symm (cg_trans (cg_M c1 cg_refl) ⟨plK y (prP 8 (M1 h)), fun x => ?_⟩)
      simp only [ev_M, ev_K, ev_X, Int.pow_zero]
      grind
    refine k h d M' hh g1 (fun a x y z => ?_) rr' hz' ⟨fun i hi => ?_, ?_, ⟨plK w u, plK w v, ?_⟩, dvp_trans dv da, dvp_trans dv db⟩
    · rw [f1 a (fun e => by rcases hh with c | c; exact x (by rw [e, c]); exact y (by rw [e, c]))]
      exact hfr a x y z
    · show pr 8 (M' h) i = 0
      rcases Nat.lt_or_ge i 8 with g | g
      · rw [pr_lt g, zero i (by omega) g]; rfl
      · exact pr_ge g
    · show pr 8 (M' h) d = 1
      rw [pr_lt g1]; exact lead
    · exact cg_trans c1 (cg_trans (cg_K e1) (cg_eq (fun x => by simp only [ev_K, ev_A, ev_M]; grind)))
  have key : ∀ n s (h l : Nat) (M1 : zM), zdg (M1 l) 8 ≤ n → s + n ≤ 8 → ((h = a0 ∧ l = a1) ∨ (h = a1 ∧ l = a0)) → (∀ a, a ≠ a0 → a ≠ a1 → a ≠ a2 → M1 a = M a) → zrw (q + 2) 8 (M1 h) → zrw (q + 2) 8 (M1 l) → euc ((q + 2 : Nat) : Int) (prP 8 (M a0)) (prP 8 (M a1)) (prP 8 (M1 h)) (prP 8 (M1 l)) → L_Re_commonOf_9 K a2 (lN (q + 2)) (n + 1) h l (nI s) M1 := by
    intro n
    induction n with
    | zero =>
      intro s h l M1 hn hs hc hfr rh rl hE
      have hl8 : zlong l = 8 := by rcases hc with ⟨_, e⟩ | ⟨_, e⟩ <;> rw [e] <;> assumption
      have hl0 : zdg (M1 l) 8 = 0 := by omega
      have hf := fin h l M1 (by rcases hc with ⟨e, _⟩ | ⟨e, _⟩; exact Or.inl e; exact Or.inr e) hfr rh hl0 hE
      refine ⟨fun _ => hf, fun _ => s_Ro_degreeOf hl8 (by decide) (by decide) ?_⟩
      rw [hl0]
      exact ⟨fun _ => hf, fun c => absurd (by decide) c⟩
    | succ n ih =>
      intro s h l M1 hn hs hc hfr rh rl hE
      have hl8 : zlong l = 8 := by rcases hc with ⟨_, e⟩ | ⟨_, e⟩ <;> rw [e] <;> assumption
      have hh8 : zlong h = 8 := by rcases hc with ⟨e, _⟩ | ⟨e, _⟩ <;> rw [e] <;> assumption
      by_cases hl0 : zdg (M1 l) 8 = 0
      · have hf := fin h l M1 (by rcases hc with ⟨e, _⟩ | ⟨e, _⟩; exact Or.inl e; exact Or.inr e) hfr rh hl0 hE
        refine ⟨fun _ => hf, fun _ => s_Ro_degreeOf hl8 (by decide) (by decide) ?_⟩
        rw [hl0]
        exact ⟨fun _ => hf, fun c => absurd (by decide) c⟩
      · obtain ⟨low, hlow⟩ : ∃ low, zdg (M1 l) 8 = low + 1 := ⟨zdg (M1 l) 8 - 1, by omega⟩
        refine ⟨fun c => absurd c (nI_ge (b := 16) (by omega) (by decide)), fun _ => s_Ro_degreeOf hl8 (by decide) (by decide) ?_⟩
        rw [hlow, pk_m1]
        refine ⟨fun c => absurd c (nI_pos (by have := zdg_le (M1 l) 8; omega)), fun _ => ?_⟩
        have hhl : h ≠ l := by
          rcases hc with ⟨e1, e2⟩ | ⟨e1, e2⟩
          · rw [e1, e2]; exact n01
          · rw [e1, e2]; exact fun e => n01 e.symm
        have hh2 : h ≠ a2 := by rcases hc with ⟨e1, e2⟩ | ⟨e1, e2⟩ <;> rw [e1] <;> assumption
        have hl2 : l ≠ a2 := by rcases hc with ⟨e1, e2⟩ | ⟨e1, e2⟩ <;> rw [e2] <;> assumption
        refine s_divideOut hh8 hl8 h2 hhl hh2 hl2 hp p1 rh rl hlow (fun M' f1 f2 f3 f4 _ => ?_)
        rw [nI_1]
        have el : M' l = M1 l := f1 l (fun e => hhl e.symm) hl2
        refine ih (s + 1) l h M' ?_ (by omega) ?_ (fun a x y z => ?_) (by rw [el]; exact rl) f2 ?_
        · rcases Nat.lt_or_ge (zdg (M' h) 8) (low + 1) with c | c
          · omega
          · exfalso
            obtain ⟨c1, c2, _⟩ := zdg_s (f := M' h) (n := 8) (d := zdg (M' h) 8 - 1) (by omega)
            have := f4.1 (zdg (M' h) 8 - 1) (by omega)
            rw [pr_lt c1] at this
            exact c2 (by rw [← Int64.toInt_inj, this]; rfl)
        · rcases hc with ⟨e1, e2⟩ | ⟨e1, e2⟩
          · exact Or.inr ⟨e2, e1⟩
          · exact Or.inl ⟨e2, e1⟩
        · rw [f1 a (by rcases hc with ⟨e, _⟩ | ⟨e, _⟩ <;> rw [e] <;> assumption) z]
          exact hfr a x y z
        · rw [el]
          exact euc_step hE (minv_cg f4)
  exact ⟨9, key 8 0 a0 a1 M (zdg_le _ _) (by omega) (Or.inl ⟨rfl, rfl⟩) (fun _ _ _ _ => rfl) ha hb euc_0⟩
