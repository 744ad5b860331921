/-! Fermat in the field that an irreducible part makes. -/
theorem perm_Q {F : Nat → Pl} {x : Int} : ∀ {N : Nat} {g : Nat → Nat}, (∀ i, i < N → g i < N) → (∀ i j, i < N → j < N → g i = g j → i = j) → ev (plQ (fun i => F (g i)) N) x = ev (plQ F N) x
  | 0, g, _, _ => rfl
  | N + 1, g, h1, h2 => by
    -- some i0 goes to N
    have ex : ∃ i, i < N + 1 ∧ g i = N := Classical.byContradiction (fun c => by
      have := pigeon (M := N) (N := N + 1) (g := g) (fun i hi => by
        have a := h1 i hi
        have b : g i ≠ N := fun e => c ⟨i, hi, e⟩
        omega) h2
      omega)
    obtain ⟨i0, i1, i2⟩ := ex
    by_cases e0 : i0 = N
    · subst e0
      have ih := perm_Q (F := F) (x := x) (N := i0) (g := g) (fun i hi => by
        have a := h1 i (by omega)
        have b : g i ≠ i0 := fun e => by have := h2 i i0 (by omega) (by omega) (by rw [e, i2]); omega
        omega) (fun i j hi hj e => h2 i j (by omega) (by omega) e)
      show ev (plM (plQ (fun i => F (g i)) i0) (F (g i0))) x = ev (plM (plQ F i0) (F i0)) x
      rw [ev_M, ev_M, ih, i2]
    · let g' : Nat → Nat := fun i => if i = i0 then g N else g i
      have g'0 : g' i0 = g N := if_pos rfl
      have g'1 : ∀ i, i ≠ i0 → g' i = g i := fun i hi => if_neg hi
      have gN : g N ≠ N := fun e => e0 (h2 i0 N i1 (by omega) (by rw [i2, e]))
      have ih := perm_Q (F := F) (x := x) (N := N) (g := g') (fun i hi => by
        by_cases c : i = i0
        · rw [c, g'0]
          have := h1 N (by omega)
          omega
        · rw [g'1 i c]
          have a := h1 i (by omega)
          have b : g i ≠ N := fun e => c (h2 i i0 (by omega) i1 (by rw [e, i2]))
          omega) (fun i j hi hj e => by
        by_cases c : i = i0
        · by_cases d : j = i0
          · rw [c, d]
          · rw [c, g'0, g'1 j d] at e
            have := h2 N j (by omega) (by omega) e
            omega
        · by_cases d : j = i0
          · rw [d, g'0, g'1 i c] at e
            have := h2 i N (by omega) (by omega) e
            omega
          · rw [g'1 i c, g'1 j d] at e
            exact h2 i j (by omega) (by omega) e)
      have o1 := (Q_out (F := fun i => F (g i)) (G := fun i => F (g i)) (i := i0) (x := x) (c := N) (fun _ _ _ => rfl)).1 (by omega)
      have o2 := (Q_out (F := fun i => F (g i)) (G := fun i => F (g' i)) (i := i0) (x := x) (c := N) (fun l _ hl => by show F (g' l) = F (g l); rw [g'1 l hl])).1 (by omega)
      show ev (plM (plQ (fun i => F (g i)) N) (F (g N))) x = ev (plM (plQ F N) (F N)) x
      rw [ev_M, ev_M, ← ih, o1, o2]
      show ev (F (g i0)) x * _ * ev (F (g N)) x = ev (F (g' i0)) x * _ * ev (F N) x
      rw [i2, g'0]
      grind
theorem ev_Qa {a : Pl} {F : Nat → Pl} {x : Int} : ∀ {N : Nat}, ev (plQ (fun i => plM a (F i)) N) x = ev a x ^ N * ev (plQ F N) x
  | 0 => by
    show ev (plX 1 0) x = _ * ev (plX 1 0) x
    rw [ev_X, Int.pow_zero, Int.pow_zero]
    rfl
  | N + 1 => by
    show ev (plM (plQ (fun i => plM a (F i)) N) (plM a (F N))) x = _ * ev (plM (plQ F N) (F N)) x
    rw [ev_M, ev_M, ev_M, ev_Qa, Int.pow_succ]
    grind
theorem dvp_QQ {p : Int} {q : Pl} {A B : Nat → Pl} : ∀ {N : Nat}, (∀ i, i < N → dvp p q (plS (A i) (B i))) → dvp p q (plS (plQ A N) (plQ B N))
  | 0, _ => dvp_0 (fun j => by
      show p ∣ (if j = 0 then (1 : Int) else 0) - (if j = 0 then (1 : Int) else 0)
      exact ⟨0, by rw [Int.mul_zero, Int.sub_self]⟩)
  | N + 1, h => by
    have ih := dvp_QQ (p := p) (q := q) (A := A) (B := B) (N := N) (fun i hi => h i (by omega))
    refine dvp_cg (dvp_A (dvp_Mr (c := A N) ih) (dvp_Ml (c := plQ B N) (h N (by omega)))) (cg_eq (fun x => ?_))
    show ev (plS (plM (plQ A N) (A N)) (plM (plQ B N) (B N))) x = _
    simp only [ev_S, ev_A, ev_M]
    grind
/-- the element with the digits of e -/
def el (p d e : Nat) : Pl := ⟨fun i => if i < d then (dig p e i : Int) else 0, d, fun i hi => if_neg (by omega)⟩
theorem el_dl {p d e : Nat} : dl d (el p d e) := fun i hi => if_neg (by omega)
theorem el_inj {p d e e' : Nat} (hp : 0 < p) (he : e < p ^ d) (he' : e' < p ^ d) (h : zr (p : Int) (plS (el p d e) (el p d e'))) : e = e' := dig_inj hp he he' (fun i hi => by
  have := h i
  have h' : (p : Int) ∣ (if i < d then (dig p e i : Int) else 0) - (if i < d then (dig p e' i : Int) else 0) := this
  rw [if_pos hi, if_pos hi] at h'
  exact nat_mod_eq (dig_lt hp) (dig_lt hp) h')
theorem el_all {p d : Nat} (hp : 0 < p) {a : Pl} (ha : dl d a) : ∃ e, e < p ^ d ∧ cg (p : Int) a (el p d e) := by
  have hf : ∀ i, (a.1 i % (p : Int)).toNat < p := fun i => by
    have h1 := Int.emod_nonneg (a.1 i) (show (p : Int) ≠ 0 by omega)
    have h2 := Int.emod_lt_of_pos (a.1 i) (show (0 : Int) < (p : Int) by omega)
    omega
  refine ⟨enc p (fun i => (a.1 i % (p : Int)).toNat) d, enc_lt hp hf d, cg_of (fun i => ?_)⟩
  show (p : Int) ∣ a.1 i - (if i < d then (dig p (enc p (fun i => (a.1 i % (p : Int)).toNat) d) i : Int) else 0)
  by_cases c : i < d
  · rw [if_pos c, dig_enc hp hf c, Int.toNat_of_nonneg (Int.emod_nonneg _ (by omega))]
    exact Int.dvd_self_sub_emod
  · rw [if_neg c, ha i (by omega)]
    exact ⟨0, by rw [Int.mul_zero]; rfl⟩
theorem ffermat {p : Nat} (hp : prm (p : Int)) {q a : Pl} {d : Nat} (hq : irr (p : Int) q d) (ha : ¬ dvp (p : Int) q a) : dvp (p : Int) q (plS (plP a (p ^ d - 1)) (plX 1 0)) := by
  have p0 : 0 < p := by have := hp.1; omega
  have pd : 0 < p ^ d := Nat.pow_pos p0
  -- el e is 0 only for e = 0
  have el0 : ∀ e, e < p ^ d → dvp (p : Int) q (el p d e) → e = 0 := fun e he hd => by
    have h1 := dvp_deg hp hq.1 hd el_dl
    refine el_inj p0 he pd ?_
    refine fun i => ?_
    have h2 := h1 i
    have h3 : (el p d 0).1 i = 0 := by
      show (if i < d then (dig p 0 i : Int) else 0) = 0
      unfold dig
      rw [Nat.zero_div, Nat.zero_mod]
      split <;> rfl
    show (p : Int) ∣ (el p d e).1 i - (el p d 0).1 i
    rw [h3, Int.sub_zero]
    exact h2
  have hg : ∀ e, ∃ e', e' < p ^ d ∧ dvp (p : Int) q (plS (plM a (el p d e)) (el p d e')) := fun e => by
    obtain ⟨t, r, r1, r2⟩ := ediv_1 hq.1.1 hq.1.2 (plM a (el p d e))
    obtain ⟨e', h1, h2⟩ := el_all p0 r1
    refine ⟨e', h1, dvp_cg (dvp_self (b := t)) ?_⟩
    have h3 : cg (p : Int) (plS (plM a (el p d e)) r) (plM q t) := cg_eq (fun x => by rw [ev_S, r2 x, ev_M]; omega)
    exact cg_trans (cg_S cg_refl (cg_symm h2)) h3
  let G : Nat → Nat := fun e => (hg e).choose
  have G1 : ∀ e, G e < p ^ d := fun e => (hg e).choose_spec.1
  have G2 : ∀ e, dvp (p : Int) q (plS (plM a (el p d e)) (el p d (G e))) := fun e => (hg e).choose_spec.2
  have G0 : ∀ e, e < p ^ d → e ≠ 0 → G e ≠ 0 := fun e he h0 hG => by
    have h1 := G2 e
    have h2 : dvp (p : Int) q (el p d (G e)) := by
      rw [hG]
      exact dvp_0 (fun i => by
        show (p : Int) ∣ (if i < d then (dig p 0 i : Int) else 0)
        unfold dig
        rw [Nat.zero_div, Nat.zero_mod]
        exact ⟨0, by split <;> rw [Int.mul_zero] <;> rfl⟩)
    have h3 : dvp (p : Int) q (plM a (el p d e)) := dvp_cg (dvp_A h1 h2) (cg_eq (fun x => by rw [ev_A, ev_S]; omega))
    rcases irr_prime hp hq h3 with c | c
    · exact ha c
    · exact h0 (el0 e he c)
  have Gi : ∀ e e', e < p ^ d → e' < p ^ d → G e = G e' → e = e' := fun e e' he he' hG => by
    have h1 := G2 e
    have h2 := G2 e'
    rw [hG] at h1
    have h3 : dvp (p : Int) q (plM a (plS (el p d e) (el p d e'))) := dvp_cg (dvp_S h1 h2) (cg_eq (fun x => by
      simp only [ev_S, ev_M]
      rw [Int.mul_sub]
      omega))
    rcases irr_prime hp hq h3 with c | c
    · exact absurd c ha
    · exact el_inj p0 he he' (dvp_deg hp hq.1 c (dl_S el_dl el_dl))
  -- the product of all but 0
  let F : Nat → Pl := fun i => el p d (i + 1)
  let g : Nat → Nat := fun i => G (i + 1) - 1
  have gF : ∀ i, i < p ^ d - 1 → F (g i) = el p d (G (i + 1)) := fun i hi => by
    have := G0 (i + 1) (by omega) (by omega)
    show el p d (G (i + 1) - 1 + 1) = _
    rw [show G (i + 1) - 1 + 1 = G (i + 1) by omega]
  have perm : ∀ x, ev (plQ (fun i => F (g i)) (p ^ d - 1)) x = ev (plQ F (p ^ d - 1)) x := fun x => perm_Q (fun i hi => by
    have a1 := G1 (i + 1)
    have a2 := G0 (i + 1) (by omega) (by omega)
    show G (i + 1) - 1 < p ^ d - 1
    omega) (fun i j hi hj e => by
    have a2 := G0 (i + 1) (by omega) (by omega)
    have a3 := G0 (j + 1) (by omega) (by omega)
    have e' : G (i + 1) - 1 = G (j + 1) - 1 := e
    have := Gi (i + 1) (j + 1) (by omega) (by omega) (by omega)
    omega)
  have h1 : dvp (p : Int) q (plS (plQ (fun i => plM a (F i)) (p ^ d - 1)) (plQ (fun i => F (g i)) (p ^ d - 1))) := dvp_QQ (fun i hi => by
    show dvp (p : Int) q (plS (plM a (F i)) (F (g i)))
    rw [gF i hi]
    exact G2 (i + 1))
  have h2 : dvp (p : Int) q (plM (plS (plP a (p ^ d - 1)) (plX 1 0)) (plQ F (p ^ d - 1))) := dvp_cg h1 (cg_eq (fun x => by
    rw [ev_M, ev_S, ev_S, ev_P, ev_X, Int.pow_zero, ev_Qa, perm x]
    grind))
  have h3 : ∀ k, k ≤ p ^ d - 1 → ¬ dvp (p : Int) q (plQ F k) := by
    intro k
    induction k with
    | zero => exact fun _ c => irr_nun hp hq c
    | succ k ih =>
      intro hk c
      rcases irr_prime hp hq c with x | x
      · exact ih (by omega) x
      · have := el0 (k + 1) (by omega) x
        omega
  rcases irr_prime hp hq h2 with c | c
  · exact c
  · exact absurd c (h3 _ (Nat.le_refl _))
