/-! The reference: power, lay, dividesModulo. -/
theorem lN_mulp {a b : Nat} : lN a * lN b = lN (a * b) := lN_mul a b
theorem s_Mo_power {K : Int64 → Prop} {p d : Nat} (hd : d < 100) (k : K (lN (p ^ d))) : w_Mo_power (lN p) (nI d) K := by
  have key : ∀ e j, j + e = d → ∃ f, L_Mo_power_5 K (lN p) (nI d) f (lN (p ^ j)) (nI j) := by
    intro e
    induction e with
    | zero =>
      intro j hj
      have : j = d := by omega
      subst this
      exact ⟨1, ⟨fun _ => k, fun c => absurd (Int32.le_refl _) c⟩⟩
    | succ e ih =>
      intro j hj
      obtain ⟨f, hf⟩ := ih (j + 1) (by omega)
      refine ⟨f + 1, ⟨fun c => absurd c (nI_ge (by omega) (by omega)), fun _ x1 e1 => ?_⟩⟩
      rw [e1, nI_1, lN_mulp, ← Nat.pow_succ]
      exact hf
  have := key d 0 (by omega)
  rw [Nat.pow_zero] at this
  exact this
/-- the monic row with the digits of e -/
def tdig (p d e : Nat) (i : Nat) : Nat := if i < d then dig p e i else if i = d then 1 else 0
theorem s_Mo_lay {K : zM → Prop} {p d e : Nat} {M : zM} (hp : 0 < p) (hp1 : p < 2 ^ 31) (he : e < 2 ^ 62) (hd : d < 16) (k : ∀ M' : zM, (∀ a, a ≠ 114 → M' a = M a) → (∀ i, i < 16 → M' 114 i = lN (tdig p d e i)) → K M') : w_Mo_lay (lN e) (nI d) (lN p) M K := by
  have z : zlong 114 = 16 := by decide
  have pne : ¬ lN p = 0 := fun c => by
    have := (pk_lEQ (a := p) (b := 0) (by omega) (by decide)).mp c
    omega
  have key : ∀ f j (M1 : zM), j + f = 16 → (∀ a, a ≠ 114 → M1 a = M a) → (∀ i, i < j → M1 114 i = lN (tdig p d e i)) → ∃ n, L_Mo_lay_6 K (nI d) (lN p) n (lN (e / p ^ j)) (nI j) M1 := by
    intro f
    induction f with
    | zero =>
      intro j M1 hj h1 h2
      have : j = 16 := by omega
      subst this
      exact ⟨1, ⟨fun _ => k M1 h1 h2, fun c => absurd (by decide) c⟩⟩
    | succ f ih =>
      intro j M1 hj h1 h2
      have hq : e / p ^ j < 2 ^ 62 := Nat.lt_of_le_of_lt (Nat.div_le_self _ _) he
      have hdv : lN (e / p ^ j) / lN p = lN (e / p ^ (j + 1)) := by
        rw [pk_lDiv (by omega) hp (by omega), Nat.div_div_eq_div_mul, ← Nat.pow_succ]
      have hrm : lN (e / p ^ j) - lN (e / p ^ j) / lN p * lN p = lN (dig p e j) := pk_lRem (by omega) hp (by omega)
      obtain ⟨n, hn⟩ := ih (j + 1) (zput M1 114 j (lN (tdig p d e j))) (by omega) (fun a x => by rw [zput_ne x]; exact h1 a x) (fun i hi => by
        by_cases c : i = j
        · subst c; rw [zput_eq]
        · rw [zput_n2 c]; exact h2 i (by omega))
      have i1 : vp_in (nI j) (zlong 114) := by rw [z]; exact vp_in_nI (by omega) (by decide)
      have go : ∀ y : Int64, y = lN (tdig p d e j) → J_Mo_lay_44 K (L_Mo_lay_6 K (nI d) (lN p) n) (nI d) (lN p) (lN (e / p ^ j)) (nI j) y (nI j) M1 := fun y ey => ⟨i1, fun M2 e2 => ⟨pne, fun x2 ex2 => by
        rw [nI_clamp (by omega)] at e2
        rw [ex2, hdv, e2, ey, nI_1]
        exact hn⟩⟩
      refine ⟨n + 1, ⟨fun c => absurd c (nI_ge (b := 16) (by omega) (by decide)), fun _ => ?_⟩⟩
      by_cases c1 : j < d
      · exact ⟨fun c => absurd c (nI_ge (by omega) (by omega)), fun _ => ⟨pne, go _ (by rw [hrm]; unfold tdig; rw [if_pos c1])⟩⟩
      · refine ⟨fun _ => ⟨fun c => go 0 ?_, fun c => go 1 ?_⟩, fun c => absurd (nI_le (by omega) (by omega)) c⟩
        · have : j ≠ d := fun e => c (by rw [e])
          unfold tdig
          rw [if_neg c1, if_neg this]
          rfl
        · have : j = d := (nI_eq (by omega) (by omega)).mp c
          unfold tdig
          rw [if_neg c1, if_pos this]
          rfl
  have := key 16 0 M (by omega) (fun _ _ => rfl) (fun i hi => absurd hi (Nat.not_lt_zero _))
  rw [Nat.pow_zero, Nat.div_one] at this
  exact this
/-! division by a monic row, modulo any number -/
theorem mt_mon {m : Int} {a b : Pl} {n t : Nat} (ha : mon a n) (hb : mt m b t) : mt m (plM a b) (n + t) := by
  refine ⟨fun c => ?_, fun k hk => ?_⟩
  · have e := psum_out (f := fun i => a.1 i * b.1 (n + t - i)) (k := n) (n := n + t + 1) (by omega)
    have c' : m ∣ psum (fun i => a.1 i * b.1 (n + t - i)) (n + t + 1) := c
    have d : m ∣ psum (fun i => if i = n then 0 else a.1 i * b.1 (n + t - i)) (n + t + 1) := psum_dvd (fun i hi => by
      split
      · exact ⟨0, (Int.mul_zero m).symm⟩
      · rename_i ne
        rcases Nat.lt_or_ge n i with q | q
        · rw [ha.1 i q, Int.zero_mul]; exact ⟨0, (Int.mul_zero m).symm⟩
        · exact Int.dvd_mul_of_dvd_right (hb.2 (n + t - i) (by omega)))
    rw [e] at c'
    have f := (Int.dvd_add_left d).mp c'
    rw [show n + t - n = t by omega, ha.2, Int.one_mul] at f
    exact hb.1 f
  · refine psum_dvd (fun i hi => ?_)
    rcases Nat.lt_or_ge n i with q | q
    · rw [ha.1 i q, Int.zero_mul]; exact ⟨0, (Int.mul_zero m).symm⟩
    · exact Int.dvd_mul_of_dvd_right (hb.2 (k - i) (by omega))
theorem dvp_degm {m : Int} {a b : Pl} {n : Nat} (ha : mon a n) (h : dvp m a b) (hb : dl n b) : zr m b := by
  obtain ⟨q, h⟩ := h
  rcases mt_ex m q with c | ⟨t, c⟩
  · exact zr_cg h (zr_M c)
  · have h1 := mt_cg (cg_symm h) (mt_mon ha c)
    have := mt_le h1 hb
    omega
theorem s_dm85 {K : Int32 → zM → Prop} {k57 : Int32 → zM → Prop} {a1 d k P : Nat} {c : Int64} {M : zM} (h1 : zlong a1 = 16) (hne : a1 ≠ 109) (hk : k + d < 16) (p0 : 0 < P) (p1 : P < 2 ^ 31) (q : ∀ M' : zM, (∀ a, a ≠ 109 → M' a = M a) → (∀ i, M' 109 i = if k ≤ i ∧ i ≤ k + d then zrs (M 109 i - c * M a1 (i - k)) (lN P) else M 109 i) → k57 (nI k + (-1)) M') : ∃ n, L_Mo_dividesModulo_85 K k57 a1 (nI d) (lN P) (nI k) c n (0 : Int32) M := by
  obtain ⟨q1, q2, q3, q4⟩ := z_lNp p0 p1
  have z : zlong 109 = 16 := by decide
  have key : ∀ e j (M1 : zM), j + e = d + 1 → (∀ a, a ≠ 109 → M1 a = M a) → (∀ i, M1 109 i = if k ≤ i ∧ i < k + j then zrs (M 109 i - c * M a1 (i - k)) (lN P) else M 109 i) → ∃ n, L_Mo_dividesModulo_85 K k57 a1 (nI d) (lN P) (nI k) c n (nI j) M1 := by
    intro e
    induction e with
    | zero =>
      intro j M1 hj g1 g2
      have : j = d + 1 := by omega
      subst this
      refine ⟨1, ⟨fun _ => q M1 g1 (fun i => ?_), fun h => absurd (nI_lt (by omega) (by omega)) h⟩⟩
      rw [g2 i]
      by_cases e : k ≤ i ∧ i ≤ k + d
      · rw [if_pos e, if_pos ⟨e.1, by omega⟩]
      · rw [if_neg e, if_neg (fun h => e ⟨h.1, by omega⟩)]
    | succ e ih =>
      intro j M1 hj g1 g2
      obtain ⟨n, hn⟩ := ih (j + 1) (zput M1 109 (k + j) (zrs (M1 109 (k + j) - c * M a1 j) (lN P))) (by omega) (fun a ha => by rw [zput_ne ha]; exact g1 a ha) (fun i => by
        by_cases e : i = k + j
        · subst e
          rw [zput_eq, g2, if_neg (fun h => by omega), if_pos ⟨by omega, by omega⟩, show k + j - k = j by omega]
        · rw [zput_n2 e, g2 i]
          by_cases e2 : k ≤ i ∧ i < k + j
          · rw [if_pos e2, if_pos ⟨e2.1, by omega⟩]
          · rw [if_neg e2, if_neg (fun h => e2 ⟨h.1, by omega⟩)])
      refine ⟨n + 1, ⟨fun h => absurd h (nI_nlt (by omega) (by omega)), fun _ => ?_⟩⟩
      rw [nI_add, nI_clamp (by omega), nI_clamp (by omega), nI_1]
      have hin : vp_in (nI (k + j)) (zlong 109) := by rw [z]; exact vp_in_nI (by omega) (by decide)
      refine ⟨hin, by rw [h1]; exact vp_in_nI (by omega) (by decide), s_left q4 ⟨hin, fun M2 e => ?_⟩⟩
      rw [e, g1 a1 hne]
      exact hn
  exact key (d + 1) 0 M (by omega) (fun _ _ => rfl) (fun i => by rw [if_neg (fun h => by omega)])
/-- whether the monic row g divides the first n + 1 places of x modulo P -/
theorem s_Mo_dividesModulo {K : Int32 → zM → Prop} {a1 a3 d n P : Nat} {M : zM} (h1 : zlong a1 = 16) (h3 : zlong a3 = 16) (r1 : a1 ≠ 109 ∧ a1 ≠ 110) (r3 : a3 ≠ 109 ∧ a3 ≠ 110) (hd : d < 16) (hn : n < 16) (p0 : 1 < P) (p1 : P < 2 ^ 31) (hg : zrw P 16 (M a1)) (hm : mon (prP 16 (M a1)) d) (hx : ∀ i, i ≤ n → (M a3 i).toInt.natAbs < 2 ^ 62)
    (yes : ∀ M' : zM, (∀ a, a ≠ 109 → a ≠ 110 → M' a = M a) → zrw P 16 (M' 110) → (∀ j, n < j + d → j < 16 → M' 110 j = 0) → cg (P : Int) (prP (n + 1) (M a3)) (plM (prP 16 (M' 110)) (prP 16 (M a1))) → K 1 M')
    (no : ∀ M' : zM, (∀ a, a ≠ 109 → a ≠ 110 → M' a = M a) → ¬ dvp (P : Int) (prP 16 (M a1)) (prP (n + 1) (M a3)) → K 0 M') : w_Mo_dividesModulo a1 (nI d) a3 (nI n) (lN P) M K := by
  obtain ⟨q1, q2, q3, q4⟩ := z_lNp (P := P) (by omega) p1
  have z9 : zlong 109 = 16 := by decide
  have z10 : zlong 110 = 16 := by decide
  have hb0 : ∀ i, d < i → pr 16 (M a1) i = 0 := fun i hi => hm.1 i hi
  have hbd : (M a1 d).toInt = 1 := by
    have := hm.2
    have e : (prP 16 (M a1)).1 d = (M a1 d).toInt := pr_lt hd
    rw [e] at this; exact this
  -- the loop over the places
  have loop : ∀ k (M1 : zM) (v : Int32), k + d ≤ 16 → (0 < k → v = nI k + (-1)) → (k = 0 → v < 0) → (∀ a, a ≠ 109 → a ≠ 110 → M1 a = M a) → zrw P 16 (M1 109) → zrw P 16 (M1 110) → minv (P : Int) (pr (n + 1) (M a3)) (pr 16 (M a1)) d k (pr 16 (M1 109)) (pr 16 (M1 110)) → (∀ j, n < j + d → j < 16 → M1 110 j = 0) → (k ≠ 0 → k + d ≤ n + 1) → L_Mo_dividesModulo_57 K a1 (nI d) (lN P) (k + 1) v M1 := by
    intro k
    induction k with
    | zero =>
      intro M1 v hk _ hv hfr r9 r10 hI hj _
      refine ⟨fun _ => s_Mo_degreeOf z9 ⟨fun c => ⟨rfl, no M1 hfr (fun hdv => ?_)⟩, fun c => ⟨rfl, yes M1 hfr r10 hj (cg_of (fun i => ?_))⟩⟩, fun c => absurd (hv rfl) c⟩
      · -- the rest is not 0
        have hcg : cg (P : Int) (prP (n + 1) (M a3)) (plA (plM (prP 16 (M1 110)) (prP 16 (M a1))) (prP 16 (M1 109))) := cg_of hI.2.2
        have h5 : dvp (P : Int) (prP 16 (M a1)) (prP 16 (M1 109)) := by
          have a2 : dvp (P : Int) (prP 16 (M a1)) (plM (prP 16 (M1 110)) (prP 16 (M a1))) := dvp_Ml dvp_refl
          refine dvp_cg (dvp_S (dvp_cg hdv (cg_symm hcg)) a2) (cg_eq (fun x => by simp only [ev_S, ev_A, ev_M]; omega))
        have h6 := dvp_degm hm h5 (fun i hi => hI.1 i (by omega))
        have h7 : zdg (M1 109) 16 = 0 := by
          rcases Nat.eq_zero_or_pos (zdg (M1 109) 16) with e | e
          · exact e
          · exfalso
            obtain ⟨e1, e2, _⟩ := zdg_s (f := M1 109) (n := 16) (d := zdg (M1 109) 16 - 1) (by omega)
            have e3 := h6 (zdg (M1 109) 16 - 1)
            have e4 : (prP 16 (M1 109)).1 (zdg (M1 109) 16 - 1) = (M1 109 (zdg (M1 109) 16 - 1)).toInt := pr_lt e1
            rw [e4] at e3
            have e5 := r9 _ e1
            have e6 : (M1 109 (zdg (M1 109) 16 - 1)).toInt ≠ 0 := fun q => e2 (by rw [← Int64.toInt_inj, q]; rfl)
            have := Int.le_of_dvd (by omega) e3
            omega
        rw [h7] at c
        exact absurd c (by decide)
      · have h7 : zdg (M1 109) 16 = 0 := by
          rcases Nat.eq_zero_or_pos (zdg (M1 109) 16) with e | e
          · exact e
          · exfalso
            have : ∀ d, d < 17 → 0 < d → (0 : Int32) ≤ nI d + (-1) := by decide
            exact c (this _ (by have := zdg_le (M1 109) 16; omega) e)
        have h8 : pr 16 (M1 109) i = 0 := by
          rcases Nat.lt_or_ge i 16 with g | g
          · rw [pr_lt g, zdg_0 h7 i g]; rfl
          · exact pr_ge g
        have := hI.2.2 i
        rw [h8, Int.add_zero] at this
        exact this
    | succ k ih =>
      intro M1 v hk hv0 _ hfr r9 r10 hI hj hkn
      have ev : v = nI k := by rw [hv0 (by omega), pk_m1]
      rw [ev]
      have e1 : M1 a1 = M a1 := hfr a1 r1.1 r1.2
      refine ⟨fun c => absurd c (nI_pos (by omega)), fun _ => ?_⟩
      rw [nI_add, nI_clamp (by omega), nI_clamp (by omega)]
      refine ⟨by rw [z9]; exact vp_in_nI (by omega) (by decide), fun x8 e8 => ⟨by rw [z10]; exact vp_in_nI (by omega) (by decide), fun M9 e9 => ?_⟩⟩
      have hc := r9 (k + d) (by omega)
      rw [← e8] at hc
      refine s_dm85 h1 r1.1 (by omega) (by omega) p1 (fun M' f1 f2 => ?_)
      have m9 : M9 109 = M1 109 := by rw [e9, zput_ne (by decide)]
      have ma1 : M9 a1 = M a1 := by rw [e9, zput_ne r1.2, e1]
      have hval : ∀ i, i < 16 → k ≤ i → i ≤ k + d → (M' 109 i).toInt = ((M1 109 i).toInt - x8.toInt * (M a1 (i - k)).toInt) % P := fun i hi c1 c2 => by
        rw [f2 i, if_pos ⟨c1, c2⟩, ma1, m9]
        have hy := hg (i - k) (by omega)
        have hxi := r9 i hi
        obtain ⟨u1, u2, u3⟩ := z_mulp p1 hc.1 hc.2 hy.1 hy.2
        have es : (M1 109 i - x8 * M a1 (i - k)).toInt = (M1 109 i).toInt - x8.toInt * (M a1 (i - k)).toInt := by
          rw [zx_sub (by rw [u1]; omega) (by rw [u1]; omega), u1]
        rw [zrs_e q2 (by rw [es]; omega), es, q1]
      have htop : (M' 109 (k + d)).toInt = 0 := by
        rw [hval (k + d) (by omega) (by omega) (by omega), show k + d - k = d by omega, hbd, e8, Int.mul_one, Int.sub_self, Int.zero_emod]
      have r9' : zrw P 16 (M' 109) := fun i hi => by
        by_cases c : k ≤ i ∧ i ≤ k + d
        · rw [hval i hi c.1 c.2]; exact z_emod (by omega) _
        · rw [f2 i, if_neg c, m9]; exact r9 i hi
      have m10 : M' 110 = M9 110 := f1 110 (by decide)
      refine ih M' (nI k + (-1)) (by omega) (fun _ => rfl) (fun e => by rw [e]; decide) (fun a x y => by rw [f1 a x, e9, zput_ne y]; exact hfr a x y) r9' (fun i hi => ?_) (minv_step (t := x8.toInt) hI (fun i hi => ?_) (fun i => ?_) (fun j => ?_)) (fun j c1 c2 => ?_) (fun _ => by have := hkn (by omega); omega)
      · rw [m10, e9]
        by_cases c : i = k
        · rw [c, zput_eq]; exact hc
        · rw [zput_n2 c]; exact r10 i hi
      · rcases Nat.lt_or_ge i 16 with g | g
        · rw [pr_lt g]
          by_cases c : i = k + d
          · rw [c]; exact htop
          · rw [f2 i, if_neg (fun h => by omega), m9]
            have := hI.1 i (by omega)
            rw [pr_lt g] at this
            exact this
        · exact pr_ge g
      · rcases Nat.lt_or_ge i 16 with g | g
        · rw [pr_lt g, pr_lt g]
          by_cases c : k ≤ i
          · rw [if_pos c]
            by_cases c2 : i ≤ k + d
            · rw [hval i g c c2, pr_lt (by omega)]
              exact mod_dvd _ _
            · rw [f2 i, if_neg (fun h => c2 h.2), m9, hb0 (i - k) (by omega)]
              exact ⟨0, by rw [Int.mul_zero, Int.mul_zero]; omega⟩
          · rw [if_neg c, f2 i, if_neg (fun h => c h.1), m9]
            exact ⟨0, by rw [Int.mul_zero]; omega⟩
        · rw [pr_ge g, pr_ge g, hb0 (i - k) (by omega)]
          exact ⟨0, by rw [Int.mul_zero]; split <;> omega⟩
      · rw [m10, e9, zput_at, pr_put (by omega)]
      · rw [m10, e9, zput_n2 (by have := hkn (by omega); omega)]
        exact hj j c1 c2
  have start : ∀ e j (M1 : zM), j + e = 16 → (∀ a, a ≠ 109 → a ≠ 110 → M1 a = M a) → (∀ i, i < j → (M1 109 i).toInt = (if i ≤ n then (M a3 i).toInt % P else 0)) → (∀ i, i < j → M1 110 i = 0) → ∃ f, L_Mo_dividesModulo_3 K a1 (nI d) a3 (nI n) (lN P) f (nI j) M1 := by
    intro e
    induction e with
    | zero =>
      intro j M1 hj g1 g2 g3
      have : j = 16 := by omega
      subst this
      have r9 : zrw P 16 (M1 109) := fun i hi => by
        rw [g2 i hi]
        split
        · exact z_emod (by omega) _
        · exact ⟨by decide, by omega⟩
      have r10 : zrw P 16 (M1 110) := fun i hi => by rw [g3 i hi]; exact ⟨by decide, by show (0 : Int) < _; omega⟩
      have h10 : pr 16 (M1 110) = fun _ => 0 := by
        funext i
        unfold pr
        by_cases c : i < 16
        · rw [if_pos c, g3 i c]; rfl
        · rw [if_neg c]
      have hI0 : ∀ k, n + 1 ≤ k + d → minv (P : Int) (pr (n + 1) (M a3)) (pr 16 (M a1)) d k (pr 16 (M1 109)) (pr 16 (M1 110)) := fun k hk => by
        rw [h10]
        refine ⟨fun i hi => ?_, fun _ _ => rfl, fun i => ?_⟩
        · rcases Nat.lt_or_ge i 16 with g | g
          · rw [pr_lt g, g2 i g, if_neg (by omega)]
          · exact pr_ge g
        · rw [pmul_z (fun _ => rfl), Int.zero_add]
          rcases Nat.lt_or_ge i 16 with g | g
          · rw [pr_lt g, g2 i g]
            by_cases c : i ≤ n
            · rw [if_pos c, pr_lt (by omega)]
              have := mod_dvd ((M a3 i).toInt) (P : Int)
              rw [show (M a3 i).toInt - (M a3 i).toInt % (P : Int) = -((M a3 i).toInt % (P : Int) - (M a3 i).toInt) by omega]
              exact Int.dvd_neg.mpr this
            · rw [if_neg c, pr_ge (by omega)]; exact ⟨0, by rw [Int.mul_zero]; rfl⟩
          · rw [pr_ge g, pr_ge (by omega)]; exact ⟨0, by rw [Int.mul_zero]; rfl⟩
      refine ⟨1, ⟨fun _ x1 ex => ?_, fun c => absurd (by decide) c⟩⟩
      by_cases c : d ≤ n
      · refine ⟨n + 1 - d + 1, loop (n + 1 - d) M1 x1 (by omega) (fun _ => ?_) (fun h => by omega) g1 r9 r10 (hI0 _ (by omega)) (fun j _ h => g3 j h) (fun _ => by omega)⟩
        rw [ex, pk_sub c, show n + 1 - d = (n - d) + 1 by omega, pk_m1]
      · refine ⟨1, loop 0 M1 x1 (by omega) (fun h => absurd h (Nat.lt_irrefl _)) (fun _ => ?_) g1 r9 r10 (hI0 _ (by omega)) (fun j _ h => g3 j h) (fun h => absurd rfl h)⟩
        rw [ex, Int32.lt_iff_toInt_lt, pk_sub_toInt (by omega) (by omega)]
        show _ < (0 : Int)
        omega
    | succ e ih =>
      intro j M1 hj g1 g2 g3
      have i9 : vp_in (nI j) (zlong 109) := by rw [z9]; exact vp_in_nI (by omega) (by decide)
      have i10 : vp_in (nI j) (zlong 110) := by rw [z10]; exact vp_in_nI (by omega) (by decide)
      have go : ∀ y : Int64, y.toInt = (if j ≤ n then (M a3 j).toInt % P else 0) → ∃ f, ∀ k3 : Int32 → zM → Prop, k3 = L_Mo_dividesModulo_3 K a1 (nI d) a3 (nI n) (lN P) f → J_Mo_dividesModulo_36 K k3 a1 (nI d) a3 (nI n) (lN P) (nI j) y (nI j) M1 := fun y hy => by
        obtain ⟨f, hf⟩ := ih (j + 1) (zput (zput M1 109 j y) 110 j 0) (by omega) (fun a x w => by rw [zput_ne w, zput_ne x]; exact g1 a x w) (fun i hi => by
          rw [zput_ne (by decide)]
          by_cases c : i = j
          · subst c; rw [zput_eq]; exact hy
          · rw [zput_n2 c]; exact g2 i (by omega)) (fun i hi => by
          by_cases c : i = j
          · subst c; rw [zput_eq]
          · rw [zput_n2 c, zput_ne (by decide)]; exact g3 i (by omega))
        refine ⟨f, fun k3 ek => ⟨i9, fun M10 e10 => ⟨i10, fun M11 e11 => ?_⟩⟩⟩
        rw [nI_clamp (by omega)] at e10 e11
        rw [ek, e11, e10, nI_1]
        exact hf
      by_cases c : j ≤ n
      · have hyv : (zrs (M a3 j) (lN P)).toInt = (if j ≤ n then (M a3 j).toInt % P else 0) := by
          rw [if_pos c, zrs_e q2 (hx j c), q1]
        obtain ⟨f, hf⟩ := go _ hyv
        refine ⟨f + 1, ⟨fun h => absurd h (nI_ge (b := 16) (by omega) (by decide)), fun _ => ⟨fun h => absurd h (nI_nlt (by omega) (by omega)), fun _ => ⟨by rw [h3]; exact vp_in_nI (by omega) (by decide), ?_⟩⟩⟩⟩
        rw [nI_clamp (by omega), g1 a3 r3.1 r3.2]
        exact s_left q4 (hf _ rfl)
      · obtain ⟨f, hf⟩ := go 0 (by rw [if_neg c]; rfl)
        exact ⟨f + 1, ⟨fun h => absurd h (nI_ge (b := 16) (by omega) (by decide)), fun _ => ⟨fun _ => hf _ rfl, fun h => absurd (nI_lt (by omega) (by omega)) h⟩⟩⟩
  exact start 16 0 M (by omega) (fun _ _ _ => rfl) (fun i hi => absurd hi (Nat.not_lt_zero _)) (fun i hi => absurd hi (Nat.not_lt_zero _))
