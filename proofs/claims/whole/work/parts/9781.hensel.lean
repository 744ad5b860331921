/-! Hensel's step, pure. -/
theorem plQx_c {A : Nat → Pl} {i : Nat} : ∀ {c : Nat}, c ≤ i → plQx A i c = plQ A c
  | 0, _ => rfl
  | c + 1, h => by
    show (if c = i then plQx A i c else plM (plQx A i c) (A c)) = plM (plQ A c) (A c)
    rw [if_neg (by omega), plQx_c (by omega)]
theorem cg_up {m p : Int} {a b : Pl} (h : cg (m * p) a b) : cg m a b := by
  obtain ⟨r, h⟩ := h
  exact ⟨plK p r, fun x => by rw [h x, ev_K, Int.mul_assoc]⟩
/-- the product of A i + m S i, where p divides m -/
theorem hstep {m p : Int} (hmp : p ∣ m) {A S : Nat → Pl} : ∀ c, cg (m * p) (plQ (fun i => plA (A i) (plK m (S i))) c) (plA (plQ A c) (plK m (plZ (fun i => plM (S i) (plQx A i c)) c)))
  | 0 => cg_eq (fun x => by
      show ev (plX 1 0) x = ev (plA (plX 1 0) (plK m (plX 0 0))) x
      rw [ev_A, ev_K, ev_X, ev_X, Int.zero_mul, Int.mul_zero, Int.add_zero])
  | c + 1 => by
    obtain ⟨t, ht⟩ := hmp
    have ih := hstep (A := A) (S := S) ⟨t, ht⟩ c
    have e1 : ∀ x, ev (plZ (fun i => plM (S i) (plQx A i (c + 1))) (c + 1)) x = ev (plZ (fun i => plM (S i) (plQx A i c)) c) x * ev (A c) x + ev (S c) x * ev (plQ A c) x := fun x => by
      show ev (plA (plZ (fun i => plM (S i) (plQx A i (c + 1))) c) (plM (S c) (plQx A c (c + 1)))) x = _
      rw [ev_A, ev_M, ev_Z, ev_Z]
      have h1 : plQx A c (c + 1) = plQ A c := by
        show (if c = c then plQx A c c else _) = _
        rw [if_pos rfl, plQx_c (Nat.le_refl _)]
      rw [h1]
      congr 1
      rw [Int.mul_comm, ← psum_mul]
      refine psum_congr (fun i hi => ?_)
      have h2 : plQx A i (c + 1) = plM (plQx A i c) (A c) := by
        show (if c = i then plQx A i c else plM (plQx A i c) (A c)) = _
        rw [if_neg (by omega)]
      rw [h2, ev_M, ev_M, ev_M]
      grind
    refine cg_trans (cg_M ih cg_refl) ⟨plK t (plM (plZ (fun i => plM (S i) (plQx A i c)) c) (S c)), fun x => ?_⟩
    show _ = ev (plA (plM (plQ A c) (A c)) (plK m (plZ (fun i => plM (S i) (plQx A i (c + 1))) (c + 1)))) x + _
    rw [ev_M, ev_A, ev_A, ev_A, ev_K, ev_K, ev_K, ev_K, ev_M, ev_M, e1 x]
    generalize ev (plZ (fun i => plM (S i) (plQx A i c)) c) x = Z
    generalize ev (plQ A c) x = Q
    generalize ev (A c) x = B
    generalize ev (S c) x = D
    rw [ht]
    grind
theorem Qx_dvp {p : Int} {A : Nat → Pl} : ∀ {c i j : Nat}, i < c → i ≠ j → dvp p (A i) (plQx A j c)
  | 0, i, j, h, _ => absurd h (Nat.not_lt_zero _)
  | c + 1, i, j, h, hij => by
    show dvp p (A i) (if c = j then plQx A j c else plM (plQx A j c) (A c))
    by_cases e : c = j
    · rw [if_pos e]; exact Qx_dvp (by omega) hij
    · rw [if_neg e]
      by_cases e2 : i = c
      · rw [e2]; exact dvp_Ml dvp_refl
      · exact dvp_Mr (Qx_dvp (by omega) hij)
def dsum (dg : Nat → Nat) : Nat → Nat
  | 0 => 0
  | c + 1 => dsum dg c + dg c
theorem Q_dmon {A : Nat → Pl} {dg : Nat → Nat} : ∀ {c : Nat}, (∀ i, i < c → mon (A i) (dg i)) → mon (plQ A c) (dsum dg c)
  | 0, _ => ⟨dl_X (Nat.succ_pos _), rfl⟩
  | c + 1, h => mon_M (Q_dmon (fun i hi => h i (by omega))) (h c (by omega))
theorem Qx_dmon {A : Nat → Pl} {dg : Nat → Nat} {j : Nat} : ∀ {c : Nat}, (∀ i, i < c → mon (A i) (dg i)) → ∃ m, mon (plQx A j c) m ∧ m + (if j < c then dg j else 0) = dsum dg c
  | 0, _ => ⟨0, ⟨dl_X (Nat.succ_pos _), rfl⟩, by rw [if_neg (by omega)]; rfl⟩
  | c + 1, h => by
    obtain ⟨m, m1, m2⟩ := Qx_dmon (A := A) (dg := dg) (j := j) (c := c) (fun i hi => h i (by omega))
    show ∃ m, mon (if c = j then plQx A j c else plM (plQx A j c) (A c)) m ∧ m + (if j < c + 1 then dg j else 0) = dsum dg c + dg c
    by_cases e : c = j
    · rw [if_pos e]
      refine ⟨m, m1, ?_⟩
      rw [if_neg (by omega)] at m2
      rw [if_pos (by omega), ← e]
      omega
    · rw [if_neg e]
      refine ⟨m + dg c, mon_M m1 (h c (by omega)), ?_⟩
      by_cases e2 : j < c
      · rw [if_pos e2] at m2
        rw [if_pos (by omega)]
        omega
      · rw [if_neg e2] at m2
        rw [if_neg (by omega)]
        omega
/-- the error taken apart over the parts -/
theorem pfrac {p : Int} (hp : prm p) {P S I : Nat → Pl} {dg : Nat → Nat} {c n : Nat} {l : Int} {e : Pl} (hP : ∀ i, i < c → mon (P i) (dg i)) (hn : dsum dg c = n) (hpw : pwc p P c) (he : dl n e) (hS : ∀ i, i < c → dl (dg i) (S i) ∧ eqm p (P i) (S i) (plM e (I i))) (hI : ∀ i, i < c → eqm p (P i) (plM (I i) (plM (plX l 0) (plQx P i c))) (plX 1 0)) : cg p (plM (plX l 0) (plZ (fun i => plM (S i) (plQx P i c)) c)) e := by
  refine cg_zr ?_
  have hQ := Q_dmon hP
  rw [hn] at hQ
  refine dvp_deg hp hQ (dvp_Q hpw (fun i hi => ?_)) (dl_S ?_ he)
  · -- modulo the part i
    have key : ∀ k, k ≤ c → eqm p (P i) (plM (plX l 0) (plZ (fun i => plM (S i) (plQx P i c)) k)) (if i < k then e else plX 0 0) := by
      intro k
      induction k with
      | zero =>
        intro _
        rw [if_neg (by omega)]
        exact eqm_eq (fun x => by
          show ev (plM (plX l 0) (plX 0 0)) x = _
          rw [ev_M, ev_X, ev_X, Int.zero_mul, Int.mul_zero])
      | succ k ih =>
        intro hk
        have h1 := ih (by omega)
        have e0 : eqm p (P i) (plM (plX l 0) (plZ (fun i => plM (S i) (plQx P i c)) (k + 1))) (plA (plM (plX l 0) (plZ (fun i => plM (S i) (plQx P i c)) k)) (plM (plX l 0) (plM (S k) (plQx P k c)))) := eqm_eq (fun x => by
          show ev (plM (plX l 0) (plA (plZ (fun i => plM (S i) (plQx P i c)) k) (plM (S k) (plQx P k c)))) x = _
          simp only [ev_M, ev_A, Int.mul_add])
        refine eqm_trans e0 ?_
        by_cases eik : i = k
        · rw [if_neg (by omega)] at h1
          rw [if_pos (by omega)]
          have h2 : eqm p (P i) (plM (plX l 0) (plM (S k) (plQx P k c))) e := by
            rw [← eik]
            have a1 : eqm p (P i) (plM (plX l 0) (plM (S i) (plQx P i c))) (plM (plM e (I i)) (plM (plX l 0) (plQx P i c))) := eqm_trans (eqm_eq (fun x => by
              simp only [ev_M]
              generalize ev (plX l 0) x = A
              generalize ev (S i) x = B
              generalize ev (plQx P i c) x = C
              grind)) (eqm_M (hS i hi).2 eqm_refl)
            have a2 : eqm p (P i) (plM (plM e (I i)) (plM (plX l 0) (plQx P i c))) (plM e (plX 1 0)) := eqm_trans (eqm_eq (fun x => by
              simp only [ev_M]
              rw [Int.mul_assoc])) (eqm_M eqm_refl (hI i hi))
            exact eqm_trans a1 (eqm_trans a2 (eqm_eq (fun x => by rw [ev_M, ev_X, Int.pow_zero, Int.one_mul, Int.mul_one])))
          exact dvp_cg (dvp_A h1 h2) (cg_eq (fun x => by simp only [ev_S, ev_A, ev_X]; omega))
        · have h2 : dvp p (P i) (plM (plX l 0) (plM (S k) (plQx P k c))) := dvp_Ml (dvp_Ml (Qx_dvp hi eik))
          have h3 : (if i < k + 1 then e else plX 0 0) = (if i < k then e else plX 0 0) := by
            by_cases x : i < k
            · rw [if_pos x, if_pos (by omega)]
            · rw [if_neg x, if_neg (by omega)]
          rw [h3]
          exact dvp_cg (dvp_A h1 h2) (cg_eq (fun x => by simp only [ev_S, ev_A]; omega))
    have := key c (Nat.le_refl _)
    rw [if_pos hi] at this
    exact this
  · refine dl_M (n := 1) (m := n) (dl_X (by decide)) (dl_Z (fun i hi => ?_)) (by omega)
    obtain ⟨m, m1, m2⟩ := Qx_dmon (A := P) (dg := dg) (j := i) hP
    rw [if_pos hi, hn] at m2
    exact dl_M (hS i hi).1 m1.1 (by omega)
/-- one step: O = l times the product modulo m becomes so modulo m p -/
theorem hensel {p m : Int} (hp : prm p) (hmp : p ∣ m) {P A S I : Nat → Pl} {dg : Nat → Nat} {c n : Nat} {l : Int} {O e : Pl} (hP : ∀ i, i < c → mon (P i) (dg i)) (hn : dsum dg c = n) (hpw : pwc p P c) (hA : ∀ i, i < c → cg p (A i) (P i)) (he : dl n e) (hO : cg (m * p) O (plA (plM (plX l 0) (plQ A c)) (plK m e))) (hS : ∀ i, i < c → dl (dg i) (S i) ∧ eqm p (P i) (S i) (plM e (I i))) (hI : ∀ i, i < c → eqm p (P i) (plM (I i) (plM (plX l 0) (plQx P i c))) (plX 1 0)) : cg (m * p) O (plM (plX l 0) (plQ (fun i => plA (A i) (plK m (S i))) c)) := by
  have h1 := pfrac hp hP hn hpw he hS hI
  -- the sums with A and with P are alike modulo p
  have hQx : ∀ i k, k ≤ c → cg p (plQx A i k) (plQx P i k) := fun i k => by
    induction k with
    | zero => exact fun _ => cg_refl
    | succ k ih =>
      intro hk
      show cg p (if k = i then plQx A i k else plM (plQx A i k) (A k)) (if k = i then plQx P i k else plM (plQx P i k) (P k))
      by_cases x : k = i
      · rw [if_pos x, if_pos x]; exact ih (by omega)
      · rw [if_neg x, if_neg x]; exact cg_M (ih (by omega)) (hA k (by omega))
  have h2 : cg p (plM (plX l 0) (plZ (fun i => plM (S i) (plQx A i c)) c)) e := cg_trans (cg_M cg_refl (cg_Z (fun i _ => cg_M cg_refl (hQx i c (Nat.le_refl _))))) h1
  obtain ⟨y, hy⟩ := h2
  have h3 := cg_M (cg_refl (a := plX l 0)) (hstep (A := A) (S := S) hmp c)
  refine cg_trans hO (cg_symm (cg_trans h3 ⟨y, fun x => ?_⟩))
  have := hy x
  rw [ev_M] at this
  simp only [ev_A, ev_M, ev_K]
  rw [Int.mul_add]
  generalize ev (plX l 0) x = L at *
  generalize ev (plZ (fun i => plM (S i) (plQx A i c)) c) x = Z at *
  generalize ev (plQ A c) x = Q at *
  generalize ev e x = E at *
  generalize ev y x = Y at *
  grind
