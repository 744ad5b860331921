/-! Parts modulo p as trial division finds them. -/
def tpl (p d e : Nat) : Pl := ⟨fun i => (tdig p d e i : Int), d + 1, fun i hi => by
  show (tdig p d e i : Int) = 0
  unfold tdig
  rw [if_neg (by omega), if_neg (by omega)]
  rfl⟩
theorem tpl_mon (p d e : Nat) : mon (tpl p d e) d := by
  refine ⟨fun i hi => ?_, ?_⟩
  · show (tdig p d e i : Int) = 0
    unfold tdig
    rw [if_neg (by omega), if_neg (by omega)]
    rfl
  · show (tdig p d e d : Int) = 1
    unfold tdig
    rw [if_neg (by omega), if_pos rfl]
    rfl
theorem dig_enc {p : Nat} {f : Nat → Nat} (hp : 0 < p) (h : ∀ i, f i < p) : ∀ {k i : Nat}, i < k → dig p (enc p f k) i = f i
  | 0, i, hi => absurd hi (Nat.not_lt_zero _)
  | k + 1, i, hi => by
    show (enc p f k + f k * p ^ k) / p ^ i % p = f i
    by_cases c : i = k
    · subst c
      rw [Nat.add_mul_div_right _ _ (Nat.pow_pos hp), Nat.div_eq_of_lt (enc_lt hp h i), Nat.zero_add, Nat.mod_eq_of_lt (h i)]
    · have ih := dig_enc hp h (k := k) (i := i) (by omega)
      have e1 : f k * p ^ k = (f k * p ^ (k - i - 1) * p) * p ^ i := by
        have : p ^ k = p ^ (k - i - 1) * p * p ^ i := by
          rw [← Nat.pow_succ, ← Nat.pow_add]
          congr 1
          omega
        rw [this]
        grind
      rw [e1, Nat.add_mul_div_right _ _ (Nat.pow_pos hp), Nat.add_mul_mod_self_right]
      exact ih
theorem tpl_all {p d : Nat} (hp : 0 < p) {a : Pl} (ha : mon a d) : ∃ e, e < p ^ d ∧ cg (p : Int) (tpl p d e) a := by
  have hf : ∀ i, (a.1 i % (p : Int)).toNat < p := fun i => by
    have h1 := Int.emod_nonneg (a.1 i) (show (p : Int) ≠ 0 by omega)
    have h2 := Int.emod_lt_of_pos (a.1 i) (show (0 : Int) < (p : Int) by omega)
    omega
  refine ⟨enc p (fun i => (a.1 i % (p : Int)).toNat) d, enc_lt hp hf d, cg_of (fun i => ?_)⟩
  show (p : Int) ∣ (tdig p d (enc p (fun i => (a.1 i % (p : Int)).toNat) d) i : Int) - a.1 i
  unfold tdig
  by_cases c : i < d
  · rw [if_pos c, dig_enc hp hf c, Int.toNat_of_nonneg (Int.emod_nonneg _ (by omega))]
    exact mod_dvd _ _
  · rw [if_neg c]
    by_cases e : i = d
    · rw [if_pos e, e, ha.2]; exact ⟨0, by rw [Int.mul_zero]; rfl⟩
    · rw [if_neg e, ha.1 i (by omega)]; exact ⟨0, by rw [Int.mul_zero]; rfl⟩
def nod (p : Int) (d : Nat) (B : Pl) : Prop := ∀ a m, mon a m → 1 ≤ m → m < d → ¬ dvp p a B
def noe (p d e : Nat) (B : Pl) : Prop := ∀ t, t < e → ¬ dvp (p : Int) (tpl p d t) B
theorem nod_dvp {p : Int} {d : Nat} {B B' : Pl} (h : nod p d B) (g : dvp p B' B) : nod p d B' := fun a m ha h1 h2 c => h a m ha h1 h2 (dvp_trans c g)
theorem noe_dvp {p d e : Nat} {B B' : Pl} (h : noe p d e B) (g : dvp (p : Int) B' B) : noe p d e B' := fun t ht c => h t ht (dvp_trans c g)
theorem nod_irr {p d e : Nat} (hd : 1 ≤ d) {B : Pl} (h : nod (p : Int) d B) (g : dvp (p : Int) (tpl p d e) B) : irr (p : Int) (tpl p d e) d :=
  ⟨tpl_mon p d e, hd, fun a m ha h1 h2 c => h a m ha h1 h2 (dvp_trans c g)⟩
theorem nod_succ {p d : Nat} (hp : 0 < p) {B : Pl} (h : nod (p : Int) d B) (g : noe p d (p ^ d) B) : nod (p : Int) (d + 1) B := fun a m ha h1 h2 c => by
  by_cases e : m = d
  · subst e
    obtain ⟨t, t1, t2⟩ := tpl_all hp ha
    exact g t t1 (dvp_cgl c t2)
  · exact h a m ha h1 (by omega) c
theorem nod_half {p : Int} (hp : prm p) {d n : Nat} {B : Pl} (h : nod p d B) (hB : mt p B n) (hn : n < 2 * d) : ∀ a m, mon a m → 1 ≤ m → m < n → ¬ dvp p a B := fun a m ha h1 h2 c => by
  by_cases e : m < d
  · exact h a m ha h1 e c
  · obtain ⟨t, ht⟩ := c
    obtain ⟨k, k1, k2⟩ := mt_part hp ht hB (mon_mt hp ha)
    obtain ⟨s, D, d1, d2, d3⟩ := mk_mon hp k1
    refine h D k d1 (by omega) (by omega) ⟨plM (plX (t.1 k) 0) a, cg_trans ht (cg_trans (cg_M cg_refl d3) (cg_eq (fun x => ?_)))⟩
    rw [ev_M, ev_K, ev_M, ev_M, ev_X, Int.pow_zero]
    grind
theorem cop_of_dvp {p : Int} {a b c : Pl} (h : cop p a b) (g : dvp p c b) : cop p a c := by
  obtain ⟨u, v, h⟩ := h
  obtain ⟨t, g⟩ := g
  exact ⟨u, plM v t, cg_trans h (cg_trans (cg_A cg_refl (cg_M cg_refl g)) (cg_eq (fun x => by simp only [ev_A, ev_M]; grind)))⟩
/-- parts found so far, and what is left -/
def pst (p : Int) (f : Pl) (j : Nat) (F : Nat → Pl) (B : Pl) : Prop := cg p f (plM (plQ F j) B) ∧ (∀ i, i < j → ∃ q m e, irr p q m ∧ 1 ≤ e ∧ F i = plP q e) ∧ pwc p F j ∧ ∀ i, i < j → cop p (F i) B
theorem pst_0 {p : Int} {f : Pl} {F : Nat → Pl} : pst p f 0 F f :=
  ⟨cg_eq (fun x => by show _ = ev (plM (plX 1 0) f) x; rw [ev_M, ev_X, Int.pow_zero]; grind), fun i hi => absurd hi (Nat.not_lt_zero _), fun i j _ hj => absurd hj (Nat.not_lt_zero _), fun i hi => absurd hi (Nat.not_lt_zero _)⟩
theorem plQ_congr {F G : Nat → Pl} : ∀ {n : Nat}, (∀ i, i < n → F i = G i) → plQ F n = plQ G n
  | 0, _ => rfl
  | n + 1, h => by
    show plM (plQ F n) (F n) = plM (plQ G n) (G n)
    rw [plQ_congr (fun i hi => h i (by omega)), h n (by omega)]
theorem pst_cg {p : Int} {f B B' : Pl} {j : Nat} {F : Nat → Pl} (h : pst p f j F B) (g : cg p B B') : pst p f j F B' := by
  obtain ⟨h1, h2, h3, h4⟩ := h
  exact ⟨cg_trans h1 (cg_M cg_refl g), h2, h3, fun i hi => cop_of_dvp (h4 i hi) ⟨plX 1 0, cg_trans g (cg_eq (fun x => by rw [ev_M, ev_X, Int.pow_zero]; grind))⟩⟩
theorem pst_step {p : Int} (hp : prm p) {f B B' q : Pl} {j m e : Nat} {F : Nat → Pl} (h : pst p f j F B) (hq : irr p q m) (he : 1 ≤ e) (g : cg p B (plM (plP q e) B')) (hn : ¬ dvp p q B') : pst p f (j + 1) (fun i => if i = j then plP q e else F i) B' := by
  obtain ⟨h1, h2, h3, h4⟩ := h
  have eF : ∀ i, i < j → (fun i => if i = j then plP q e else F i) i = F i := fun i hi => if_neg (by omega)
  have ej : (fun i => if i = j then plP q e else F i) j = plP q e := if_pos rfl
  have d1 : dvp p (plP q e) B := ⟨B', g⟩
  have d2 : dvp p B' B := ⟨plP q e, cg_trans g (cg_eq (fun x => by rw [ev_M, ev_M, Int.mul_comm]))⟩
  refine ⟨?_, fun i hi => ?_, fun i k hik hk => ?_, fun i hi => ?_⟩
  · show cg p f (plM (plM (plQ (fun i => if i = j then plP q e else F i) j) ((fun i => if i = j then plP q e else F i) j)) B')
    rw [plQ_congr eF, ej]
    exact cg_trans h1 (cg_trans (cg_M cg_refl g) (cg_eq (fun x => by simp only [ev_M]; grind)))
  · by_cases c : i = j
    · rw [c, ej]; exact ⟨q, m, e, hq, he, rfl⟩
    · rw [eF i (by omega)]; exact h2 i (by omega)
  · by_cases c : k = j
    · rw [c, ej, eF i (by omega)]
      exact cop_of_dvp (h4 i (by omega)) d1
    · rw [eF k (by omega), eF i (by omega)]
      exact h3 i k hik (by omega)
  · by_cases c : i = j
    · rw [c, ej]
      rcases irr_cop hp (a := B') hq with d | d
      · exact cop_symm (cop_P (cop_symm d) e)
      · exact absurd d hn
    · rw [eF i (by omega)]
      exact cop_of_dvp (h4 i (by omega)) d2
/-- f taken apart into r parts -/
def pfin (p : Int) (f : Pl) (r : Nat) (F : Nat → Pl) : Prop := (∀ w, dvp p f w ↔ ∀ i, i < r → dvp p (F i) w) ∧ (∀ i, i < r → loc p (F i)) ∧ pwc p F r
theorem pst_end0 {p : Int} (hp : prm p) {f B : Pl} {j : Nat} {F : Nat → Pl} (h : pst p f j F B) (hB : mt p B 0) : pfin p f j F := by
  obtain ⟨h1, h2, h3, h4⟩ := h
  have hc : cg p B (plX (B.1 0) 0) := cg_of (fun i => by
    show p ∣ B.1 i - (if i = 0 then B.1 0 else 0)
    by_cases e : i = 0
    · rw [if_pos e, e, Int.sub_self]; exact ⟨0, (Int.mul_zero p).symm⟩
    · rw [if_neg e, Int.sub_zero]; exact hB.2 i (by omega))
  obtain ⟨s, y, hs⟩ := inv_ex hp hB.1
  have d1 : dvp p (plQ F j) f := ⟨B, h1⟩
  have d2 : dvp p f (plQ F j) := by
    refine ⟨plX s 0, cg_symm (cg_trans (cg_M (cg_trans h1 (cg_M cg_refl hc)) cg_refl) ⟨plK y (plQ F j), fun x => ?_⟩)⟩
    simp only [ev_M, ev_X, ev_K, Int.pow_zero]
    grind
  refine ⟨fun w => ⟨fun g i hi => dvp_trans (dvp_trans (Q_dvp hi) d1) g, fun g => dvp_trans d2 (dvp_Q h3 g)⟩, fun i hi => ?_, h3⟩
  obtain ⟨q, m, e, q1, q2, q3⟩ := h2 i hi
  rw [q3]
  exact irr_loc hp q1 q2
theorem pst_end1 {p : Int} (hp : prm p) {f B : Pl} {j n : Nat} {F : Nat → Pl} (h : pst p f j F B) (hB : mt p B n) (hn : 1 ≤ n) (hi : ∀ a m, mon a m → 1 ≤ m → m < n → ¬ dvp p a B) : ∃ F', pfin p f (j + 1) F' := by
  obtain ⟨s, D, d1, d2, d3⟩ := mk_mon hp hB
  have dD : dvp p D B := ⟨plX (B.1 n) 0, cg_trans d3 (cg_eq (fun x => by rw [ev_K, ev_M, ev_X, Int.pow_zero]; grind))⟩
  have hD : irr p D n := ⟨d1, hn, fun a m ha h1 h2 c => hi a m ha h1 h2 (dvp_trans c dD)⟩
  have hc0 : mt p (plX (B.1 n) 0) 0 := mt_of (by show ¬ p ∣ (if 0 = 0 then B.1 n else 0); rw [if_pos rfl]; exact hB.1) (dl_X (by omega))
  have := pst_step hp (B' := plX (B.1 n) 0) (e := 1) h hD (Nat.le_refl _) (cg_trans d3 (cg_eq (fun x => by
    rw [ev_K, ev_M, ev_P, ev_X, Int.pow_zero, Int.pow_succ, Int.pow_zero]
    grind))) (fun c => by have := dvp_mt hp (mon_mt hp d1) c hc0; omega)
  exact ⟨_, pst_end0 hp this hc0⟩
theorem pfin_unit {p : Int} {f f' : Pl} {r : Nat} {F : Nat → Pl} (h : pfin p f r F) (g1 : dvp p f f') (g2 : dvp p f' f) : pfin p f' r F :=
  ⟨fun w => ⟨fun a => (h.1 w).mp (dvp_trans g1 a), fun a => dvp_trans g2 ((h.1 w).mpr a)⟩, h.2.1, h.2.2⟩
/-- the count of the class is the number of parts -/
theorem bkn_eq {q n F r : Nat} {M' : zM} {P : Nat → Pl} (hp : prm ((q + 2 : Nat) : Int)) (hm : mon (prP 8 (M' 47)) n) (h : bkn q n F M') (g : pfin ((q + 2 : Nat) : Int) (prP 8 (M' 47)) r P) (hn : n < 8) : F = r := by
  obtain ⟨R, m, pv, fr, h1, h2, h3, h4, h5⟩ := h
  refine elim_dim hp hm h1 h2 (fun t i ht hi => ?_) g.1 g.2.1 g.2.2
  unfold zkr
  rw [if_pos (by omega)]
  rcases Nat.lt_or_ge i 8 with c | c
  · rw [pr_lt c, (h4 t ht).2 i hi c]; rfl
  · exact pr_ge c
