/-! Parts that are powers of what cannot be taken apart; how many v with v^p = v there are. -/
def nun (p : Int) (F : Pl) : Prop := ¬ dvp p F (plX 1 0)
def loc (p : Int) (F : Pl) : Prop := nun p F ∧ ∀ a b, cop p a b → dvp p F (plM a b) → dvp p F a ∨ dvp p F b
theorem cop_P {p : Int} {a b : Pl} (h : cop p a b) : ∀ n, cop p a (plP b n)
  | 0 => ⟨plX 0 0, plX 1 0, cg_eq (fun x => by
      show ev (plX 1 0) x = ev (plA (plM (plX 0 0) a) (plM (plX 1 0) (plX 1 0))) x
      simp only [ev_A, ev_M, ev_X, Int.pow_zero]
      grind)⟩
  | n + 1 => cop_M (cop_P h n) h
theorem dvp_P {p : Int} {a : Pl} : ∀ {n : Nat}, 1 ≤ n → dvp p a (plP a n)
  | 0, h => absurd h (by decide)
  | n + 1, _ => ⟨plP a n, cg_eq (fun x => by show ev (plM (plP a n) a) x = _; simp only [ev_M]; grind)⟩
theorem irr_nun {p : Int} (hp : prm p) {q : Pl} {n : Nat} (h : irr p q n) : nun p q := fun c => by
  have h1 : mt p (plX 1 0) 0 := mt_of (by show ¬ p ∣ (if 0 = 0 then 1 else 0); exact prm_1 hp) (dl_X (by omega))
  have := dvp_mt hp (mon_mt hp h.1) c h1
  have := h.2.1
  omega
theorem cop_dvp1 {p : Int} {a b q : Pl} (h : cop p a b) (ha : dvp p q a) (hb : dvp p q b) : dvp p q (plX 1 0) := by
  obtain ⟨u, v, h⟩ := h
  exact dvp_cg (dvp_A (dvp_Ml ha) (dvp_Ml hb)) h
theorem irr_loc {p : Int} (hp : prm p) {q : Pl} {n e : Nat} (h : irr p q n) (he : 1 ≤ e) : loc p (plP q e) := by
  refine ⟨fun c => irr_nun hp h (dvp_trans (dvp_P he) c), fun a b hab hd => ?_⟩
  rcases irr_cop hp (a := a) h with c | c
  · exact Or.inr (cop_dvp (cop_symm (cop_P (cop_symm c) e)) hd)
  · refine Or.inl ?_
    rcases irr_cop hp (a := b) h with d | d
    · refine cop_dvp (cop_symm (cop_P (cop_symm d) e)) (dvp_cg hd (cg_eq (fun x => by simp only [ev_M]; grind)))
    · exact absurd (cop_dvp1 hab c d) (irr_nun hp h)
theorem cop_num {p : Int} (hp : prm p) {v : Pl} {s t : Int} (h : ¬ p ∣ s - t) : cop p (plS v (plX s 0)) (plS v (plX t 0)) := by
  obtain ⟨c, y, hc⟩ := inv_ex hp h
  refine ⟨plX (-c) 0, plX c 0, plX (-y) 0, fun x => ?_⟩
  simp only [ev_A, ev_M, ev_S, ev_X, Int.pow_zero]
  grind
theorem cop_gs {p : Int} (hp : prm p) {v : Pl} {m : Nat} (hm : (m : Int) < p) : ∀ {n : Nat}, n ≤ m → cop p (plS v (plX m 0)) (gs v n)
  | 0, _ => ⟨plX 0 0, plX 1 0, cg_eq (fun x => by
      show ev (plX 1 0) x = ev (plA (plM (plX 0 0) _) (plM (plX 1 0) (plX 1 0))) x
      simp only [ev_A, ev_M, ev_X, Int.pow_zero]
      grind)⟩
  | n + 1, h => cop_M (cop_gs hp hm (by omega)) (cop_num hp (fun c => by
      have := Int.le_of_dvd (by omega) c
      omega))
theorem loc_gs {p : Int} (hp : prm p) {F v : Pl} (h : loc p F) : ∀ {n : Nat}, (n : Int) ≤ p → dvp p F (gs v n) → ∃ s : Nat, s < n ∧ dvp p F (plS v (plX s 0))
  | 0, _, hd => absurd hd h.1
  | n + 1, hn, hd => by
    rcases h.2 _ _ (cop_symm (cop_gs hp (m := n) (by omega) (Nat.le_refl n))) hd with c | c
    · obtain ⟨s, h1, h2⟩ := loc_gs hp h (by omega) c
      exact ⟨s, by omega, h2⟩
    · exact ⟨n, by omega, c⟩
theorem loc_uniq {p : Int} (hp : prm p) {F v : Pl} (h : nun p F) {s t : Int} (hs : dvp p F (plS v (plX s 0))) (ht : dvp p F (plS v (plX t 0))) : p ∣ s - t :=
  Classical.byContradiction (fun c => h (cop_dvp1 (cop_num hp c) hs ht))
theorem dvp_gs {p : Int} {F v : Pl} {s : Nat} (hs : dvp p F (plS v (plX s 0))) : ∀ {n : Nat}, s < n → dvp p F (gs v n)
  | 0, h => absurd h (Nat.not_lt_zero _)
  | n + 1, h => by
    by_cases e : s = n
    · subst e; exact dvp_Ml hs
    · exact dvp_Mr (dvp_gs hs (by omega))
/-! products of parts -/
def plQ (F : Nat → Pl) : Nat → Pl
  | 0 => plX 1 0
  | n + 1 => plM (plQ F n) (F n)
theorem cop_1 {p : Int} {a : Pl} : cop p a (plX 1 0) := ⟨plX 0 0, plX 1 0, cg_eq (fun x => by simp only [ev_A, ev_M, ev_X, Int.pow_zero]; grind)⟩
theorem cop_Q {p : Int} {F : Nat → Pl} {a : Pl} : ∀ {r : Nat}, (∀ i, i < r → cop p a (F i)) → cop p a (plQ F r)
  | 0, _ => cop_1
  | r + 1, h => cop_M (cop_Q (fun i hi => h i (by omega))) (h r (by omega))
def pwc (p : Int) (F : Nat → Pl) (r : Nat) : Prop := ∀ i j, i < j → j < r → cop p (F i) (F j)
theorem dvp_Q {p : Int} {F : Nat → Pl} {w : Pl} : ∀ {r : Nat}, pwc p F r → (∀ i, i < r → dvp p (F i) w) → dvp p (plQ F r) w
  | 0, _, _ => ⟨w, cg_eq (fun x => by show _ = ev (plM (plX 1 0) w) x; rw [ev_M, ev_X, Int.pow_zero]; grind)⟩
  | r + 1, h, hw => cop_mul (cop_symm (cop_Q (fun i hi => cop_symm (h i r hi (by omega))))) (dvp_Q (fun i j a b => h i j a (by omega)) (fun i hi => hw i (by omega))) (hw r (by omega))
theorem Q_dvp {p : Int} {F : Nat → Pl} : ∀ {r i : Nat}, i < r → dvp p (F i) (plQ F r)
  | 0, i, h => absurd h (Nat.not_lt_zero _)
  | r + 1, i, h => by
    by_cases e : i = r
    · subst e; exact dvp_Ml dvp_refl
    · exact dvp_Mr (Q_dvp (by omega))
theorem crt_Q {p : Int} {F : Nat → Pl} (s : Nat → Int) : ∀ {r : Nat}, pwc p F r → ∃ v, ∀ i, i < r → dvp p (F i) (plS v (plX (s i) 0))
  | 0, _ => ⟨plX 0 0, fun i hi => absurd hi (Nat.not_lt_zero _)⟩
  | r + 1, h => by
    obtain ⟨v, hv⟩ := crt_Q s (r := r) (fun i j a b => h i j a (by omega))
    obtain ⟨w, w1, w2⟩ := crt (cop_symm (cop_Q (F := F) (r := r) (fun i hi => cop_symm (h i r hi (by omega))))) v (plX (s r) 0)
    refine ⟨w, fun i hi => ?_⟩
    by_cases e : i = r
    · subst e; exact w2
    · have h1 := dvp_A (dvp_trans (Q_dvp (F := F) (r := r) (i := i) (by omega)) w1) (hv i (by omega))
      exact dvp_cg h1 (cg_eq (fun x => by simp only [ev_S, ev_A]; omega))
/-! counting -/
theorem pigeon : ∀ {M N : Nat} {g : Nat → Nat}, (∀ i, i < N → g i < M) → (∀ i j, i < N → j < N → g i = g j → i = j) → N ≤ M
  | 0, N, g, h, _ => by
    rcases Nat.eq_zero_or_pos N with e | e
    · omega
    · exact absurd (h 0 e) (Nat.not_lt_zero _)
  | M + 1, 0, g, _, _ => Nat.zero_le _
  | M + 1, N + 1, g, h, hi => by
    have := pigeon (M := M) (N := N) (g := fun i => if g i = M then g N else g i) (fun i hN => by
      show (if g i = M then g N else g i) < M
      have a1 := h i (by omega)
      have a2 := h N (by omega)
      split
      · rename_i e
        by_cases e2 : g N = M
        · have := hi i N (by omega) (by omega) (by rw [e, e2])
          omega
        · omega
      · omega) (fun i j a b e => by
      have e' : (if g i = M then g N else g i) = (if g j = M then g N else g j) := e
      by_cases c1 : g i = M
      · rw [if_pos c1] at e'
        by_cases c2 : g j = M
        · exact hi i j (by omega) (by omega) (by rw [c1, c2])
        · rw [if_neg c2] at e'
          have := hi N j (by omega) (by omega) e'
          omega
      · rw [if_neg c1] at e'
        by_cases c2 : g j = M
        · rw [if_pos c2] at e'
          have := hi i N (by omega) (by omega) e'
          omega
        · rw [if_neg c2] at e'
          exact hi i j (by omega) (by omega) e')
    omega
def dig (p x i : Nat) : Nat := x / p ^ i % p
def enc (p : Nat) (f : Nat → Nat) : Nat → Nat
  | 0 => 0
  | k + 1 => enc p f k + f k * p ^ k
theorem enc_lt {p : Nat} {f : Nat → Nat} (hp : 0 < p) (h : ∀ i, f i < p) : ∀ k, enc p f k < p ^ k
  | 0 => by show 0 < p ^ 0; rw [Nat.pow_zero]; omega
  | k + 1 => by
    show enc p f k + f k * p ^ k < p ^ (k + 1)
    have h1 := enc_lt hp h k
    have h2 : (f k + 1) * p ^ k ≤ p * p ^ k := Nat.mul_le_mul_right _ (h k)
    rw [Nat.pow_succ, Nat.mul_comm (p ^ k) p]
    rw [Nat.add_mul, Nat.one_mul] at h2
    omega
theorem enc_inj {p : Nat} {f g : Nat → Nat} (hp : 0 < p) (hf : ∀ i, f i < p) (hg : ∀ i, g i < p) : ∀ {k : Nat}, enc p f k = enc p g k → ∀ i, i < k → f i = g i
  | 0, _, i, hi => absurd hi (Nat.not_lt_zero _)
  | k + 1, h, i, hi => by
    have h' : enc p f k + f k * p ^ k = enc p g k + g k * p ^ k := h
    have h1 := enc_lt hp hf k
    have h2 := enc_lt hp hg k
    have hk : f k = g k := by
      rcases Nat.lt_trichotomy (f k) (g k) with c | c | c
      · have := Nat.mul_le_mul_right (p ^ k) c
        rw [Nat.succ_mul] at this
        omega
      · exact c
      · have := Nat.mul_le_mul_right (p ^ k) c
        rw [Nat.succ_mul] at this
        omega
    rw [hk] at h'
    by_cases e : i = k
    · rw [e]; exact hk
    · exact enc_inj hp hf hg (k := k) (by omega) i (by omega)
theorem dig_lt {p x i : Nat} (hp : 0 < p) : dig p x i < p := Nat.mod_lt _ hp
theorem dig_inj {p : Nat} (hp : 0 < p) : ∀ {k x y : Nat}, x < p ^ k → y < p ^ k → (∀ i, i < k → dig p x i = dig p y i) → x = y
  | 0, x, y, hx, hy, _ => by
    rw [Nat.pow_zero] at hx hy
    omega
  | k + 1, x, y, hx, hy, h => by
    have h0 := h 0 (by omega)
    unfold dig at h0
    rw [Nat.pow_zero, Nat.div_one, Nat.div_one] at h0
    have h1 := dig_inj hp (k := k) (x := x / p) (y := y / p) (by
      rw [Nat.div_lt_iff_lt_mul hp, ← Nat.pow_succ]; exact hx) (by
      rw [Nat.div_lt_iff_lt_mul hp, ← Nat.pow_succ]; exact hy) (fun i hi => by
      have := h (i + 1) (by omega)
      unfold dig at this ⊢
      rw [Nat.pow_succ, Nat.mul_comm, ← Nat.div_div_eq_div_mul, ← Nat.div_div_eq_div_mul] at this
      exact this)
    have e1 := Nat.div_add_mod x p
    have e2 := Nat.div_add_mod y p
    rw [h1, h0] at e1
    omega
