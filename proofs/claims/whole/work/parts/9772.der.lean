/-! Derivatives; a small prime modulo which no square divides. -/
def plT (a : Pl) : Pl := ⟨fun i => ((i : Int) + 1) * a.1 (i + 1), by
  obtain ⟨n, h⟩ := a.2
  exact ⟨n, fun i hi => by show ((i : Int) + 1) * a.1 (i + 1) = 0; rw [h (i + 1) (by omega), Int.mul_zero]⟩⟩
theorem dl_T {n : Nat} {a : Pl} (h : dl (n + 1) a) : dl n (plT a) := fun i hi => by
  show ((i : Int) + 1) * a.1 (i + 1) = 0
  rw [h (i + 1) (by omega), Int.mul_zero]
theorem plT_M (a b : Pl) : plT (plM a b) = plA (plM (plT a) b) (plM a (plT b)) := pl_ext (fun k => by
  show ((k : Int) + 1) * psum (fun i => a.1 i * b.1 (k + 1 - i)) (k + 1 + 1) = psum (fun i => ((i : Int) + 1) * a.1 (i + 1) * b.1 (k - i)) (k + 1) + psum (fun i => a.1 i * ((((k - i : Nat) : Int) + 1) * b.1 (k - i + 1))) (k + 1)
  have e1 : ((k : Int) + 1) * psum (fun i => a.1 i * b.1 (k + 1 - i)) (k + 1 + 1) = psum (fun i => (i : Int) * (a.1 i * b.1 (k + 1 - i))) (k + 1 + 1) + psum (fun i => ((k + 1 - i : Nat) : Int) * (a.1 i * b.1 (k + 1 - i))) (k + 1 + 1) := by
    rw [← psum_mul, ← psum_add]
    refine psum_congr (fun i hi => ?_)
    have : ((k : Int) + 1) = (i : Int) + ((k + 1 - i : Nat) : Int) := by omega
    rw [this]
    grind
  have e2 : psum (fun i => (i : Int) * (a.1 i * b.1 (k + 1 - i))) (k + 1 + 1) = psum (fun i => ((i : Int) + 1) * a.1 (i + 1) * b.1 (k - i)) (k + 1) := by
    rw [psum_succ]
    show ((0 : Nat) : Int) * _ + _ = _
    rw [show ((0 : Nat) : Int) = 0 from rfl, Int.zero_mul, Int.zero_add]
    refine psum_congr (fun i _ => ?_)
    show ((i + 1 : Nat) : Int) * (a.1 (i + 1) * b.1 (k + 1 - (i + 1))) = _
    rw [show k + 1 - (i + 1) = k - i by omega, show ((i + 1 : Nat) : Int) = (i : Int) + 1 from rfl]
    grind
  have e3 : psum (fun i => ((k + 1 - i : Nat) : Int) * (a.1 i * b.1 (k + 1 - i))) (k + 1 + 1) = psum (fun i => a.1 i * ((((k - i : Nat) : Int) + 1) * b.1 (k - i + 1))) (k + 1) := by
    show psum (fun i => ((k + 1 - i : Nat) : Int) * (a.1 i * b.1 (k + 1 - i))) (k + 1) + ((k + 1 - (k + 1) : Nat) : Int) * _ = _
    rw [Nat.sub_self, show ((0 : Nat) : Int) = 0 from rfl, Int.zero_mul, Int.add_zero]
    refine psum_congr (fun i hi => ?_)
    rw [show k + 1 - i = k - i + 1 by omega, show ((k - i + 1 : Nat) : Int) = ((k - i : Nat) : Int) + 1 from rfl]
    grind
  rw [e1, e2, e3])
theorem ev_TM (a b : Pl) (x : Int) : ev (plT (plM a b)) x = ev (plT a) x * ev b x + ev a x * ev (plT b) x := by
  rw [plT_M, ev_A, ev_M, ev_M]
theorem cg_T {m : Int} {a b : Pl} (h : cg m a b) : cg m (plT a) (plT b) := cg_of (fun i => by
  show m ∣ ((i : Int) + 1) * a.1 (i + 1) - ((i : Int) + 1) * b.1 (i + 1)
  rw [← Int.mul_sub]
  exact Int.dvd_mul_of_dvd_right (cg_co h (i + 1)))
theorem ev_TP (q : Pl) (x : Int) : ∀ k : Nat, ev (plT (plP q (k + 1))) x = ((k : Int) + 1) * ev q x ^ k * ev (plT q) x
  | 0 => by
    show ev (plT (plM (plX 1 0) q)) x = _
    rw [ev_TM, ev_X, Int.pow_zero]
    have : ev (plT (plX 1 0)) x = 0 := ev_0 (fun i => by
      show ((i : Int) + 1) * (if i + 1 = 0 then 1 else 0) = 0
      rw [if_neg (by omega), Int.mul_zero]) x
    rw [this, show ((0 : Nat) : Int) = 0 from rfl, Int.pow_zero]
    grind
  | k + 1 => by
    show ev (plT (plM (plP q (k + 1)) q)) x = _
    rw [ev_TM, ev_TP q x k, ev_P, show ((k + 1 : Nat) : Int) = (k : Int) + 1 from rfl, Int.pow_succ]
    grind
/-- q as often as it divides -/
theorem mult_ex {p : Int} (hp : prm p) {q : Pl} {m : Nat} (hq : irr p q m) : ∀ (n : Nat) (G : Pl), mt p G n → ∃ (k : Nat) (r : Pl), cg p G (plM (plP q k) r) ∧ ¬ dvp p q r := by
  intro n
  induction n using Nat.strongRecOn with
  | ind n ih =>
    intro G hG
    by_cases c : dvp p q G
    · obtain ⟨t, ht⟩ := c
      obtain ⟨j, j1, j2⟩ := mt_part hp ht hG (mon_mt hp hq.1)
      obtain ⟨k, r, h1, h2⟩ := ih j (by have := hq.2.1; omega) t j1
      refine ⟨k + 1, r, cg_trans ht (cg_trans (cg_M cg_refl h1) (cg_eq (fun x => ?_))), h2⟩
      show _ = ev (plM (plM (plP q k) q) r) x
      simp only [ev_M]
      grind
    · exact ⟨0, G, cg_eq (fun x => by
        show _ = ev (plM (plX 1 0) G) x
        rw [ev_M, ev_X, Int.pow_zero]; grind), c⟩
theorem cg_canP {p : Int} (hp : prm p) {q a b : Pl} {m : Nat} (hq : mon q m) (h : cg p (plM q a) (plM q b)) : cg p a b := by
  refine cg_zr ?_
  have h1 : zr p (plM q (plS a b)) := zr_cg (cg_eq (b := plS (plM q a) (plM q b)) (fun x => by simp only [ev_M, ev_S]; grind)) (zr_S h)
  rcases gaussp hp h1 with c | c
  · exact absurd (c m) (mon_mt hp hq).1
  · exact c
theorem cg_canPk {p : Int} (hp : prm p) {q : Pl} {m : Nat} (hq : mon q m) : ∀ (k : Nat) {a b : Pl}, cg p (plM (plP q k) a) (plM (plP q k) b) → cg p a b
  | 0, a, b, h => by
    have e : ∀ c : Pl, cg p (plM (plP q 0) c) c := fun c => cg_eq (fun x => by
      show ev (plM (plX 1 0) c) x = _
      rw [ev_M, ev_X, Int.pow_zero]; grind)
    exact cg_trans (cg_symm (e a)) (cg_trans h (e b))
  | k + 1, a, b, h => by
    have e : ∀ c : Pl, cg p (plM (plP q (k + 1)) c) (plM (plP q k) (plM q c)) := fun c => cg_eq (fun x => by
      show ev (plM (plM (plP q k) q) c) x = _
      simp only [ev_M]; grind)
    exact cg_canP hp hq (cg_canPk hp hq k (cg_trans (cg_symm (e a)) (cg_trans h (e b))))
/-- what divides O and its derivative divides also the derivative of G O, less G -/
theorem share_w {p : Int} (hp : prm p) {G O w q : Pl} {m n : Nat} (hq : irr p q m) (hG : mt p G n) (hw : ∀ x, ev (plT (plM G O)) x = ev G x * ev w x) (h1 : dvp p q O) (h2 : dvp p q (plT O)) : dvp p q w := by
  obtain ⟨k, r, g1, g2⟩ := mult_ex hp hq n G hG
  obtain ⟨o1, ho⟩ := h1
  -- q divides q' o1
  have h3 : dvp p q (plM (plT q) o1) := by
    have e1 : cg p (plT O) (plA (plM (plT q) o1) (plM q (plT o1))) := by
      have := cg_T ho
      rw [plT_M] at this
      exact this
    refine dvp_cg (dvp_S h2 (dvp_self (b := plT o1))) ?_
    have e2 := cg_S (cg_symm e1) (cg_refl (a := plM q (plT o1)))
    exact cg_trans (cg_eq (fun x => by simp only [ev_S, ev_A, ev_M]; omega)) e2
  obtain ⟨o2, ho2⟩ := h2
  have hGw : cg p (plM G w) (plA (plM (plT G) O) (plM G (plT O))) := cg_eq (fun x => by
    have := hw x
    rw [ev_TM] at this
    simp only [ev_A, ev_M]
    omega)
  have key : dvp p q (plM r w) := by
    rcases Nat.eq_zero_or_pos k with e | e
    · subst e
      have e0 : cg p G r := cg_trans g1 (cg_eq (fun x => by
        show ev (plM (plX 1 0) r) x = _
        rw [ev_M, ev_X, Int.pow_zero]; grind))
      have d1 : dvp p q (plM G w) := dvp_cg (dvp_A (dvp_Ml ⟨o1, ho⟩) (dvp_Ml ⟨o2, ho2⟩)) hGw
      exact dvp_cg d1 (cg_M (cg_symm e0) cg_refl)
    · obtain ⟨k', rfl⟩ : ∃ k', k = k' + 1 := ⟨k - 1, by omega⟩
      -- everything has q^(k' + 1)
      have e1 : cg p (plM (plP q (k' + 1)) (plM r w)) (plM (plP q (k' + 1)) (plA (plM (plA (plK ((k' : Int) + 1) (plM (plT q) r)) (plM q (plT r))) o1) (plM r (plM q o2)))) := by
        have a1 : cg p (plM (plP q (k' + 1)) (plM r w)) (plM G w) := cg_trans (cg_eq (fun x => by simp only [ev_M]; grind)) (cg_M (cg_symm g1) cg_refl)
        have a2 : cg p (plT G) (plT (plM (plP q (k' + 1)) r)) := cg_T g1
        refine cg_trans a1 (cg_trans hGw (cg_trans (cg_A (cg_M a2 ho) (cg_M g1 ho2)) (cg_eq (fun x => ?_))))
        simp only [ev_A, ev_M, ev_K]
        rw [ev_TM, ev_TP, ev_P]
        have : ev q x ^ (k' + 1) = ev q x ^ k' * ev q x := Int.pow_succ _ _
        rw [this]
        grind
      have e2 := cg_canPk hp hq.1 (k' + 1) e1
      refine dvp_cg (dvp_A ?_ (dvp_Ml dvp_self)) e2
      have d1 : dvp p q (plM (plX ((k' : Int) + 1) 0) (plM r (plM (plT q) o1))) := dvp_Ml (dvp_Ml h3)
      have d2 : dvp p q (plM q (plM (plT r) o1)) := dvp_self
      refine dvp_cg (dvp_A d1 d2) (cg_eq (fun x => ?_))
      simp only [ev_A, ev_M, ev_K, ev_X, Int.pow_zero]
      grind
  rcases irr_prime hp hq key with c | c
  · exact absurd c g2
  · exact c
