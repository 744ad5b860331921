/-! The reference's modular, and modular. -/
theorem prP_cut {f : Nat → Int64} {n : Nat} (hn : n < 16) (h : ∀ i, n < i → i < 16 → f i = 0) : prP (n + 1) f = prP 16 f := pl_ext (fun i => by
  show pr (n + 1) f i = pr 16 f i
  unfold pr
  by_cases c : i < n + 1
  · rw [if_pos c, if_pos (by omega)]
  · rw [if_neg c]
    by_cases d : i < 16
    · rw [if_pos d, h i (by omega) d]; rfl
    · rw [if_neg d])
theorem tpl_row {p d e : Nat} {f : Nat → Int64} (hd : d < 16) (hp : 1 < p) (hp1 : p < 2 ^ 31) (h : ∀ i, i < 16 → f i = lN (tdig p d e i)) : prP 16 f = tpl p d e ∧ zrw p 16 f := by
  have hl : ∀ i, tdig p d e i < p := fun i => by
    unfold tdig
    split
    · exact dig_lt (by omega)
    · split <;> omega
  have hv : ∀ i, i < 16 → (f i).toInt = (tdig p d e i : Int) := fun i hi => by
    have := hl i
    rw [h i hi, pk_lT (by omega)]
  refine ⟨pl_ext (fun i => ?_), fun i hi => ?_⟩
  · show pr 16 f i = (tdig p d e i : Int)
    rcases Nat.lt_or_ge i 16 with c | c
    · rw [pr_lt c, hv i c]
    · rw [pr_ge c]
      unfold tdig
      rw [if_neg (by omega), if_neg (by omega)]
      rfl
  · have := hl i
    rw [hv i hi]
    omega
/-- the bare row: degree n modulo p -/
def bare (p n : Nat) (M : zM) : Prop := n < 8 ∧ zrw p 16 (M 105) ∧ mt (p : Int) (prP 16 (M 105)) n ∧ ∀ i, n < i → i < 16 → M 105 i = 0
theorem zrw_b {p n : Nat} {f : Nat → Int64} (hp : p < 2 ^ 31) (h : zrw p n f) (i : Nat) (hi : i < n) : (f i).toInt.natAbs < 2 ^ 62 := by
  have := h i hi
  omega
theorem s_mod181 {Pp : Int32 → zM → zN → Prop} {k122 : Int32 → Int32 → Int64 → zM → Prop} {q d e : Nat} {v4 : Int32} {v6 : Int64} {N : zN} (hp : prm ((q + 2 : Nat) : Int)) (p1 : q + 2 < 100) (hd : 1 ≤ d) (hd4 : d < 8) (hirr : irr ((q + 2 : Nat) : Int) (tpl (q + 2) d e) d) : ∀ (n F : Nat) (M : zM), n + 2 ≤ F → d ≤ n → (∀ i, i < 16 → M 114 i = lN (tdig (q + 2) d e i)) → bare (q + 2) n M → zrw (q + 2) 16 (M 110) → (∀ j, n < j + d → j < 16 → M 110 j = 0) → cg ((q + 2 : Nat) : Int) (prP 16 (M 105)) (plM (prP 16 (M 110)) (tpl (q + 2) d e)) →
    (∀ (M' : zM) (n' k : Nat), (∀ a, a ≠ 105 → a ≠ 109 → a ≠ 110 → M' a = M a) → 1 ≤ k → bare (q + 2) n' M' → cg ((q + 2 : Nat) : Int) (prP 16 (M 105)) (plM (plP (tpl (q + 2) d e) k) (prP 16 (M' 105))) → ¬ dvp ((q + 2 : Nat) : Int) (tpl (q + 2) d e) (prP 16 (M' 105)) → k122 (nI n') v4 (lN (e + 1)) M') → L_Mo_modular_181 Pp k122 (nI (q + 2)) v4 (nI d) v6 (lN e) N F (nI n) 1 M := by
  intro n
  induction n using Nat.strongRecOn with
  | ind n ih =>
    intro F0 M hF hdn h114 hb r10 z10 hq kk
    obtain ⟨F, rfl⟩ : ∃ F, F0 = F + 1 := ⟨F0 - 1, by omega⟩
    obtain ⟨n8, b1, b2, b3⟩ := hb
    obtain ⟨t1, t2⟩ := tpl_row (by omega) (by omega) (by omega) h114
    refine ⟨fun c => absurd c (by decide), fun _ => s_Mo_copy (by decide) (by decide) (by decide) (fun M3 f1 f2 x32 e32 => ?_)⟩
    rw [pk_sub hdn] at e32
    subst e32
    -- the quotient is the new bare row
    have hqm : mt ((q + 2 : Nat) : Int) (prP 16 (M 110)) (n - d) := by
      obtain ⟨t, ht1, ht2⟩ := mt_part hp (cg_trans hq (cg_eq (fun x => by rw [ev_M, ev_M, Int.mul_comm]))) b2 (mon_mt hp (tpl_mon (q + 2) d e))
      have : t = n - d := by omega
      rw [← this]; exact ht1
    have e105 : prP 16 (M3 105) = prP 16 (M 110) := prP_congr f2
    have hb3 : bare (q + 2) (n - d) M3 := by
      refine ⟨by omega, fun i hi => by rw [f2 i hi]; exact r10 i hi, by rw [e105]; exact hqm, fun i a b => by rw [f2 i b]; exact z10 i (by omega) b⟩
    have h114' : ∀ i, i < 16 → M3 114 i = lN (tdig (q + 2) d e i) := fun i hi => by rw [f1 114 (by decide)]; exact h114 i hi
    have stop : ∀ M4 : zM, (∀ a, a ≠ 109 → a ≠ 110 → M4 a = M3 a) → ¬ dvp ((q + 2 : Nat) : Int) (tpl (q + 2) d e) (prP 16 (M3 105)) → L_Mo_modular_181 Pp k122 (nI (q + 2)) v4 (nI d) v6 (lN e) N F (nI (n - d)) 0 M4 := fun M4 g1 hno => by
      obtain ⟨F', rfl⟩ : ∃ F', F = F' + 1 := ⟨F - 1, by omega⟩
      have e4 : M4 105 = M3 105 := g1 105 (by decide) (by decide)
      refine ⟨fun _ x28 e28 => ?_, fun c => absurd rfl c⟩
      rw [e28, lN_1]
      refine kk M4 (n - d) 1 (fun a x y z => by rw [g1 a y z, f1 a x]) (Nat.le_refl _) ?_ ?_ (by rw [e4]; exact hno)
      · obtain ⟨c1, c2, c3, c4⟩ := hb3
        exact ⟨c1, by rw [e4]; exact c2, by rw [e4]; exact c3, by rw [e4]; exact c4⟩
      · rw [e4, e105]
        exact cg_trans hq (cg_eq (fun x => by rw [ev_M, ev_M, ev_P, Int.pow_succ, Int.pow_zero]; grind))
    refine ⟨fun c => ?_, fun c => ?_⟩
    · refine stop M3 (fun _ _ _ => rfl) (fun hdv => ?_)
      have := dvp_mt hp (mon_mt hp (tpl_mon (q + 2) d e)) hdv hb3.2.2.1
      rw [nI_ltI (by omega) (by omega)] at c
      omega
    · rw [nI_l (by omega)]
      have e114 : prP 16 (M3 114) = tpl (q + 2) d e := by rw [f1 114 (by decide)]; exact t1
      have ecut := prP_cut (f := M3 105) (n := n - d) (by omega) hb3.2.2.2
      refine s_Mo_dividesModulo (by decide) (by decide) (by decide) (by decide) (by omega) (by omega) (by omega) (by omega) (by rw [f1 114 (by decide)]; exact t2) (by rw [e114]; exact tpl_mon _ _ _) (fun i hi => zrw_b (by omega) hb3.2.1 i (by omega)) (fun M4 g1 g2 g3 g4 => ⟨fun c => absurd c (by decide), fun _ => ?_⟩) (fun M4 g1 g2 => ⟨fun _ => stop M4 g1 (by rw [e114, ecut] at g2; exact g2), fun c => absurd rfl c⟩)
      rw [e114, ecut] at g4
      have e4 : M4 105 = M3 105 := g1 105 (by decide) (by decide)
      have hdn2 : d ≤ n - d := by
        rw [nI_ltI (by omega) (by omega)] at c
        omega
      refine ih (n - d) (by omega) F M4 (by omega) hdn2 (fun i hi => by rw [g1 114 (by decide) (by decide)]; exact h114' i hi) ?_ g2 g3 (by rw [e4]; exact g4) (fun M' n' k h1 h2 h3 h4 h5 => ?_)
      · obtain ⟨c1, c2, c3, c4⟩ := hb3
        exact ⟨c1, by rw [e4]; exact c2, by rw [e4]; exact c3, by rw [e4]; exact c4⟩
      · rw [e4, e105] at h4
        refine kk M' n' (k + 1) (fun a x y z => by rw [h1 a x y z, g1 a y z, f1 a x]) (by omega) h3 ?_ h5
        refine cg_trans hq (cg_trans (cg_M h4 cg_refl) (cg_eq (fun x => ?_)))
        show _ = ev (plM (plM (plP (tpl (q + 2) d e) k) (tpl (q + 2) d e)) (prP 16 (M' 105))) x
        simp only [ev_M]
        grind
theorem s_mod122 {Pp : Int32 → zM → zN → Prop} {k98 : Int32 → Int32 → Int32 → zM → Prop} {q d : Nat} {N : zN} {M0 : zM} {f : Pl} (hp : prm ((q + 2 : Nat) : Int)) (p1 : q + 2 < 100) (hd : 1 ≤ d) (hd4 : d < 4)
    (kk : ∀ (M' : zM) (n j : Nat) (F : Nat → Pl), (∀ a, ¬ (104 ≤ a ∧ a ≤ 117) → M' a = M0 a) → bare (q + 2) n M' → j + n ≤ 7 → pst ((q + 2 : Nat) : Int) f j F (prP 16 (M' 105)) → nod ((q + 2 : Nat) : Int) (d + 1) (prP 16 (M' 105)) → k98 (nI n) (nI j) (nI (d + 1)) M') : ∀ (u e n j : Nat) (F : Nat → Pl) (M : zM), e + u = (q + 2) ^ d → (∀ a, ¬ (104 ≤ a ∧ a ≤ 117) → M a = M0 a) → bare (q + 2) n M → j + n ≤ 7 → pst ((q + 2 : Nat) : Int) f j F (prP 16 (M 105)) → nod ((q + 2 : Nat) : Int) d (prP 16 (M 105)) → noe (q + 2) d e (prP 16 (M 105)) → L_Mo_modular_122 Pp k98 (nI (q + 2)) (nI d) (lN ((q + 2) ^ d)) N (u + 1) (nI n) (nI j) (lN e) M := by
  have hpd : (q + 2) ^ d ≤ 1000000 := by
    have h3 : (q + 2) ^ d ≤ (q + 2) ^ 3 := Nat.pow_le_pow_right (by omega) (by omega)
    have h4 : (q + 2) ^ 3 ≤ 100 ^ 3 := Nat.pow_le_pow_left (by omega) 3
    have : (100 : Nat) ^ 3 = 1000000 := by decide
    omega
  intro u
  induction u with
  | zero =>
    intro e n j F M he hfr hb hj hst hnod hnoe
    have ee : e = (q + 2) ^ d := by omega
    refine ⟨fun _ => ?_, fun c => absurd ?_ c⟩
    · rw [nI_1]
      rw [ee] at hnoe
      exact kk M n j F hfr hb hj hst (nod_succ (by omega) hnod hnoe)
    · rw [ee]; exact Int64.le_refl _
  | succ u ih =>
    intro e n j F M he hfr hb hj hst hnod hnoe
    have hlt : ¬ lN ((q + 2) ^ d) ≤ lN e := by
      rw [pk_lLE (by omega) (by omega)]
      omega
    refine ⟨fun c => absurd c hlt, fun _ => ⟨fun c => ?_, fun c => ?_⟩⟩
    · rw [nI_1]
      rw [nI_ltI (by have := hb.1; omega) (by omega)] at c
      refine kk M n j F hfr hb hj hst (fun a m ha h1 h2 hdv => ?_)
      have := dvp_mt hp (mon_mt hp ha) hdv hb.2.2.1
      exact hnod a m ha h1 (by omega) hdv
    · rw [nI_ltI (by have := hb.1; omega) (by omega)] at c
      obtain ⟨n8, b1, b2, b3⟩ := id hb
      rw [nI_l (by omega)]
      refine s_Mo_lay (by omega) (by omega) (by omega) (by omega) (fun M2 f1 f2 => ?_)
      obtain ⟨t1, t2⟩ := tpl_row (by omega) (by omega) (by omega) f2
      have e105 : M2 105 = M 105 := f1 105 (by decide)
      have ecut := prP_cut (f := M 105) (n := n) (by omega) b3
      refine s_Mo_dividesModulo (by decide) (by decide) (by decide) (by decide) (by omega) (by omega) (by omega) (by omega) t2 (by rw [t1]; exact tpl_mon _ _ _) (fun i hi => by rw [e105]; exact zrw_b (by omega) b1 i (by omega)) (fun M3 g1 g2 g3 g4 => ⟨fun c => absurd c (by decide), fun _ x27 e27 => ?_⟩) (fun M3 g1 g2 => ⟨fun _ => ⟨1, ⟨fun _ x28 e28 => ?_, fun c => absurd rfl c⟩⟩, fun c => absurd rfl c⟩)
      · rw [t1, e105, ecut] at g4
        have e3 : M3 105 = M 105 := by rw [g1 105 (by decide) (by decide), e105]
        have hdv : dvp ((q + 2 : Nat) : Int) (tpl (q + 2) d e) (prP 16 (M 105)) := ⟨prP 16 (M3 110), cg_trans g4 (cg_eq (fun x => by rw [ev_M, ev_M, Int.mul_comm]))⟩
        have hirr := nod_irr hd hnod hdv
        rw [e27, nI_1]
        refine ⟨n + 2, s_mod181 hp p1 hd (by omega) hirr n (n + 2) M3 (Nat.le_refl _) (by omega) (fun i hi => by rw [g1 114 (by decide) (by decide)]; exact f2 i hi) ⟨n8, by rw [e3]; exact b1, by rw [e3]; exact b2, by rw [e3]; exact b3⟩ g2 g3 (by rw [e3]; exact g4) (fun M' n' k h1 h2 h3 h4 h5 => ?_)⟩
        rw [e3] at h4
        have d2 : dvp ((q + 2 : Nat) : Int) (prP 16 (M' 105)) (prP 16 (M 105)) := ⟨plP (tpl (q + 2) d e) k, cg_trans h4 (cg_eq (fun x => by rw [ev_M, ev_M, Int.mul_comm]))⟩
        have hlt2 : n' < n := by
          have hqm : dvp ((q + 2 : Nat) : Int) (plM (tpl (q + 2) d e) (prP 16 (M' 105))) (prP 16 (M 105)) := by
            obtain ⟨k', rfl⟩ : ∃ k', k = k' + 1 := ⟨k - 1, by omega⟩
            refine ⟨plP (tpl (q + 2) d e) k', cg_trans h4 (cg_eq (fun x => ?_))⟩
            show ev (plM (plM (plP (tpl (q + 2) d e) k') (tpl (q + 2) d e)) (prP 16 (M' 105))) x = _
            simp only [ev_M]
            grind
          have := dvp_mt hp (mt_M hp (mon_mt hp (tpl_mon (q + 2) d e)) h3.2.2.1) hqm b2
          omega
        refine ih (e + 1) n' (j + 1) _ M' (by omega) (fun a x => by rw [h1 a (by omega) (by omega) (by omega), g1 a (by omega) (by omega), f1 a (by omega)]; exact hfr a x) h3 (by omega) (pst_step hp hst hirr h2 h4 h5) (nod_dvp hnod d2) (fun t ht hdt => ?_)
        by_cases c : t = e
        · rw [c] at hdt; exact h5 hdt
        · exact hnoe t (by omega) (dvp_trans hdt d2)
      · rw [e28, lN_1]
        rw [t1, e105, ecut] at g2
        have e3 : M3 105 = M 105 := by rw [g1 105 (by decide) (by decide), e105]
        refine ih (e + 1) n j F M3 (by omega) (fun a x => by rw [g1 a (by omega) (by omega), f1 a (by omega)]; exact hfr a x) ⟨n8, by rw [e3]; exact b1, by rw [e3]; exact b2, by rw [e3]; exact b3⟩ hj (by rw [e3]; exact hst) (by rw [e3]; exact hnod) (fun t ht hdt => ?_)
        rw [e3] at hdt
        by_cases c : t = e
        · rw [c] at hdt; exact g2 hdt
        · exact hnoe t (by omega) hdt
theorem s_mod98 {Pp : Int32 → zM → zN → Prop} {q : Nat} {N : zN} {M0 : zM} {f : Pl} (hp : prm ((q + 2 : Nat) : Int)) (p1 : q + 2 < 100)
    (kk : ∀ (M' : zM) (r : Nat) (F : Nat → Pl), (∀ a, ¬ (104 ≤ a ∧ a ≤ 117) → M' a = M0 a) → pfin ((q + 2 : Nat) : Int) f r F → Pp (nI r) M' N) : ∀ (u d n j : Nat) (F : Nat → Pl) (M : zM), d + u = 4 → 1 ≤ d → (∀ a, ¬ (104 ≤ a ∧ a ≤ 117) → M a = M0 a) → bare (q + 2) n M → j + n ≤ 7 → pst ((q + 2 : Nat) : Int) f j F (prP 16 (M 105)) → nod ((q + 2 : Nat) : Int) d (prP 16 (M 105)) → L_Mo_modular_98 Pp (nI (q + 2)) N (u + 1) (nI n) (nI j) (nI d) M := by
  have fin : ∀ (d n j : Nat) (F : Nat → Pl) (M : zM), (∀ a, ¬ (104 ≤ a ∧ a ≤ 117) → M a = M0 a) → bare (q + 2) n M → pst ((q + 2 : Nat) : Int) f j F (prP 16 (M 105)) → nod ((q + 2 : Nat) : Int) d (prP 16 (M 105)) → n < 2 * d → J_Mo_modular_253 Pp (nI n) (nI j) M N := fun d n j F M hfr hb hst hnod hnd => by
    have n8 := hb.1
    rcases Nat.eq_zero_or_pos n with e | e
    · subst e
      exact ⟨fun _ => kk M j F hfr (pst_end0 hp hst hb.2.2.1), fun c => absurd (by decide) c⟩
    · obtain ⟨F', hF'⟩ := pst_end1 hp hst hb.2.2.1 e (nod_half hp hnod hb.2.2.1 hnd)
      refine ⟨fun c => absurd c (nI_nle e (by omega)), fun _ => ?_⟩
      rw [nI_1]
      exact kk M (j + 1) F' hfr hF'
  intro u
  induction u with
  | zero =>
    intro d n j F M hd hd1 hfr hb hj hst hnod
    have : d = 4 := by omega
    subst this
    have := fin 4 n j F M hfr hb hst hnod (by have := hb.1; omega)
    exact ⟨fun _ => this, fun c => absurd (by decide) c⟩
  | succ u ih =>
    intro d n j F M hd hd1 hfr hb hj hst hnod
    have n8 := hb.1
    refine ⟨fun c => absurd c (nI_nlt (a := 3) (by omega) (by decide)), fun _ => ⟨fun c => ?_, fun c => ?_⟩⟩
    · rw [nI_ltI (by omega) (by omega)] at c
      exact fin d n j F M hfr hb hst hnod (by omega)
    · rw [nI_l (by omega)]
      refine s_Mo_power (by omega) ⟨(q + 2) ^ d + 1, ?_⟩
      exact s_mod122 hp p1 hd1 (by omega) (fun M' n' j' F' h1 h2 h3 h4 h5 => ih (d + 1) n' j' F' M' (by omega) (by omega) h1 h2 h3 h4 h5) ((q + 2) ^ d) 0 n j F M (by omega) hfr hb hj hst hnod (fun t ht => absurd ht (Nat.not_lt_zero _))
theorem pfin_0 {p : Int} {f : Pl} {r : Nat} {F : Nat → Pl} (hp : prm p) (h : pfin p f r F) (hf : mt p f 0) : r = 0 := by
  rcases Nat.eq_zero_or_pos r with e | e
  · exact e
  · exfalso
    obtain ⟨s, y, hs⟩ := inv_ex hp hf.1
    have hc : cg p f (plX (f.1 0) 0) := cg_of (fun i => by
      show p ∣ f.1 i - (if i = 0 then f.1 0 else 0)
      by_cases e : i = 0
      · rw [if_pos e, e, Int.sub_self]; exact ⟨0, (Int.mul_zero p).symm⟩
      · rw [if_neg e, Int.sub_zero]; exact hf.2 i (by omega))
    have d1 : dvp p f (plX 1 0) := by
      refine ⟨plX s 0, cg_symm (cg_trans (cg_M hc cg_refl) ⟨plX y 0, fun x => ?_⟩)⟩
      simp only [ev_M, ev_X, Int.pow_zero]
      grind
    exact (h.2.1 0 e).1 ((h.1 _).mp d1 0 e)
theorem cg_dvp {p : Int} {a b : Pl} (h : cg p a b) : dvp p a b ∧ dvp p b a :=
  ⟨⟨plX 1 0, cg_trans (cg_symm h) (cg_eq (fun x => by rw [ev_M, ev_X, Int.pow_zero]; grind))⟩, ⟨plX 1 0, cg_trans h (cg_eq (fun x => by rw [ev_M, ev_X, Int.pow_zero]; grind))⟩⟩
theorem s_Mo_modular {Pp : Int32 → zM → zN → Prop} {r q : Nat} {M0 M : zM} {N N0 : zN} (hI : zreg M0 N0) (hN : N 100 = N0 100) (hr : r < 4) (hz : zmo (nI (q + 2))) (hp : prm ((q + 2 : Nat) : Int)) (p1 : q + 2 < 100)
    (k0 : ∀ M' : zM, (∀ a, ¬ (104 ≤ a ∧ a ≤ 117) → M' a = M a) → zr ((q + 2 : Nat) : Int) (prP 8 (M0 (2 + r))) → Pp (-1) M' (zpui N 99 0 0))
    (k1 : ∀ (M' : zM) (s : Nat) (F : Nat → Pl), (∀ a, ¬ (104 ≤ a ∧ a ≤ 117) → M' a = M a) → ¬ zr ((q + 2 : Nat) : Int) (prP 8 (M0 (2 + r))) → pfin ((q + 2 : Nat) : Int) (prP 8 (M0 (2 + r))) s F → Pp (nI s) M' (zpui N 99 0 0)) : w_Mo_modular (nI r) (nI (q + 2)) M N Pp := by
  refine s_isReg (fun _ => ⟨fun _ => s_isSmall (fun _ => ⟨fun h => absurd h (by decide), fun _ N7 e7 => ?_⟩) (fun h => absurd hz h), fun h => absurd h (by decide)⟩) (fun h => absurd ⟨r, hr, rfl⟩ h)
  have hz0 : N7 99 0 = 0 := by rw [e7, zpui_eq]
  have hzl : zld N7 r = zld N0 r := by rw [e7]; unfold zld; rw [zpui_ne (by decide), hN]
  rw [hz0]
  refine ⟨fun _ => s_Mo_load hr (by decide) (fun Ma a1 a2 => ?_), fun h => absurd (by decide) h⟩
  obtain ⟨u5, w5⟩ := zld_row (M' := Ma) (c := 105) hI hr (fun i hi => by rw [a2 i hi, hzl])
  obtain ⟨q1, q2, q3, q4⟩ := z_lNp (P := q + 2) (by omega) (by omega)
  have z5 : zlong 105 = 16 := by decide
  have hval : ∀ i, i < 16 → (Ma 105 i).toInt.natAbs < 2 ^ 62 := fun i hi => by
    rcases Nat.lt_or_ge i 8 with c | c
    · rw [u5 i c]
      have := z_regab hI hr c
      unfold zab at this
      omega
    · rw [w5 i c hi]; decide
  have key : ∀ d j (M1 : zM), j + d = 16 → (∀ a, a ≠ 105 → M1 a = Ma a) → (∀ i, i < j → (M1 105 i).toInt = (Ma 105 i).toInt % (q + 2 : Nat)) → (∀ i, j ≤ i → M1 105 i = Ma 105 i) → ∃ f, L_Mo_modular_47 Pp (nI (q + 2)) N7 f (nI j) M1 := by
    intro d
    induction d with
    | zero =>
      intro j M1 hj g1 g2 g3
      have : j = 16 := by omega
      subst this
      refine ⟨1, ⟨fun _ => s_Mo_degreeOf z5 ?_, fun h => absurd (by decide) h⟩⟩
      have fr : ∀ a, ¬ (104 ≤ a ∧ a ≤ 117) → M1 a = M a := fun a ha => by rw [g1 a (by omega), a1 a (by omega)]
      have rr' : zrw (q + 2) 16 (M1 105) := fun i hi => by rw [g2 i hi]; exact z_emod (by omega) _
      have z0 : ∀ i, 8 ≤ i → i < 16 → M1 105 i = 0 := fun i a b => by
        rw [← Int64.toInt_inj, g2 i b, w5 i a b]
        show (0 : Int) % _ = 0
        exact Int.zero_emod _
      have hcg : cg ((q + 2 : Nat) : Int) (prP 16 (M1 105)) (prP 8 (M0 (2 + r))) := cg_of (fun i => by
        show _ ∣ pr 16 (M1 105) i - pr 8 (M0 (2 + r)) i
        rcases Nat.lt_or_ge i 8 with c | c
        · rw [pr_lt (by omega), pr_lt c, g2 i (by omega), u5 i c]; exact mod_dvd _ _
        · rw [pr_ge (f := M0 (2 + r)) c]
          have : pr 16 (M1 105) i = 0 := by
            rcases Nat.lt_or_ge i 16 with c2 | c2
            · rw [pr_lt c2, z0 i c c2]; rfl
            · exact pr_ge c2
          rw [this]
          exact ⟨0, by rw [Int.mul_zero]; rfl⟩)
      have ez : zdg (M1 105) 16 = zdg (M1 105) 8 := zdg_up (by decide) z0
      have le8 := zdg_le (M1 105) 8
      rcases Nat.eq_zero_or_pos (zdg (M1 105) 16) with e | e
      · rw [e]
        refine ⟨fun c => absurd c (by decide), fun _ => ⟨1, ⟨fun c => absurd c (by decide), fun _ => ⟨fun _ => ⟨fun _ => ?_, fun c => absurd (by decide) c⟩, fun c => absurd (by decide) c⟩⟩⟩⟩
        rw [e7]
        exact k0 M1 fr (zr_cg (cg_symm hcg) (row_016 e))
      · obtain ⟨n, hn⟩ : ∃ n, zdg (M1 105) 16 = n + 1 := ⟨zdg (M1 105) 16 - 1, by omega⟩
        obtain ⟨n1, n2, n3⟩ := zdg_s hn
        rw [hn, pk_m1]
        have hmt := row_mt16 rr' hn
        refine ⟨fun _ => ⟨4, ?_⟩, fun c => absurd (nI_pos' (by omega)) c⟩
        refine s_mod98 (M0 := M) (f := prP 16 (M1 105)) (F := fun _ => plX 1 0) hp p1 (fun M' s F h1 h2 => ?_) 3 1 n 0 M1 (by decide) (by decide) fr ⟨by omega, rr', hmt, n3⟩ (by omega) pst_0 (fun a m ha h1 h2 => by omega)
        rw [e7]
        refine k1 M' s F h1 (fun c => ?_) (pfin_unit h2 (cg_dvp hcg).1 (cg_dvp hcg).2)
        exact hmt.1 (zr_cg hcg c n)
    | succ d ih =>
      intro j M1 hj g1 g2 g3
      obtain ⟨f, hf⟩ := ih (j + 1) (zput M1 105 j (zrs (M1 105 j) (lN (q + 2)))) (by omega) (fun a x => by rw [zput_ne x]; exact g1 a x) (fun i hi => by
        by_cases c : i = j
        · subst c; rw [zput_eq, g3 i (Nat.le_refl _), zrs_e q2 (hval i (by omega)), q1]
        · rw [zput_n2 c]; exact g2 i (by omega)) (fun i hi => by rw [zput_n2 (by omega)]; exact g3 i (by omega))
      have i5 : vp_in (nI j) (zlong 105) := by rw [z5]; exact vp_in_nI (by omega) (by decide)
      refine ⟨f + 1, ⟨fun h => absurd h (nI_ge (b := 16) (by omega) (by decide)), fun _ => ⟨i5, ?_⟩⟩⟩
      rw [nI_clamp (by omega), nI_l (by omega), nI_1]
      refine s_left q4 ⟨i5, fun M17 e17 => ?_⟩
      rw [e17]
      exact hf
  exact key 16 0 Ma (by omega) (fun _ _ => rfl) (fun i hi => absurd hi (Nat.not_lt_zero _)) (fun _ _ => rfl)
/-- what modular keeps: the pivots of the class may change -/
def zkq (M : zM) (N : zN) (M' : zM) (N' : zN) : Prop := (∀ k, 79 ≤ k → k ≤ 103 → M' k = M k) ∧ (∀ k, k ≠ 45 → k ≠ 99 → k ≠ 100 → N' k = N k) ∧ ∀ j, j ≠ 0 → N' 99 j = N 99 j
theorem small_prm {q : Nat} (h : zmo (nI (q + 2))) (hq : q + 2 < 2 ^ 31) : prm ((q + 2 : Nat) : Int) ∧ q + 2 < 100 := by
  obtain ⟨p, hp, e⟩ := h
  have e' : q + 2 = p := (nI_eq hq (by omega)).mp e
  rw [e']
  have key : ∀ p : Nat, (p = 2 ∨ p = 3 ∨ p = 5 ∨ p = 7 ∨ p = 11 ∨ p = 13) → ∀ d, 1 < d → d < p → ¬ d ∣ p := fun p hp => by
    rcases hp with rfl | rfl | rfl | rfl | rfl | rfl <;> (intro d h1 h2 h3; have : ∀ d, d < 13 → 1 < d → True := fun _ _ _ => trivial; revert h1 h3; revert d h2) <;> decide
  exact ⟨prm_of (by omega) (key p hp), by omega⟩
theorem u_modular {a1 a2 : Int32} {M : zM} {N : zN} {K : zM → zN → Prop} {Q : Int32 → zM → zN → Prop} (hI : zreg M N) (hk : ∀ M' N', zreg M' N' → zkq M N M' N' → K M' N') (hQ : ∀ q M1 N1, w_Mo_modular a1 a2 M1 N1 (fun r4 M5 N6 => zth K q r4 M5 N6) → Q q M1 N1) : w_La_modular a1 a2 M N Q := by
  by_cases h1 : zR a1 4
  · by_cases h2 : zmo a2
    · obtain ⟨r, hr, rfl⟩ := id h1
      obtain ⟨p, hp, rfl⟩ := id h2
      obtain ⟨q, rfl⟩ : ∃ q, p = q + 2 := ⟨p - 2, by omega⟩
      obtain ⟨hprm, hp100⟩ := small_prm h2 (by omega)
      refine s_reg (fun _ => s_modulus (fun _ => ⟨z_gn hr, ?_⟩) (fun h => absurd h2 h)) (fun h => absurd h1 h)
      rw [nI_clamp (by omega), nI_l (by omega)]
      -- the answers of both, put together
      have fin : ∀ (x : Int32) (Mc : zM) (N' : zN), (∀ a, ¬ (6 ≤ a ∧ a ≤ 78) → Mc a = M a) → (∀ a, a ≠ 45 → N' a = N a) → (∀ M' : zM, (∀ a, ¬ (104 ≤ a ∧ a ≤ 117) → M' a = zput Mc 119 0 x.toInt64 a) → zth K 0 x M' (zpui N' 99 0 0)) := fun x Mc N' hMc hN' M' hM' => by
        refine z_th zpui_eq (fun _ => by rw [hM' 119 (by decide), zput_eq]) (hk _ _ (fun r' i hr' hi => ?_) ⟨fun k a b => ?_, fun k a b c => ?_, fun j hj => ?_⟩)
        · rw [hM' _ (by omega), zput_ne (by omega), hMc _ (by omega), zpui_ne (by decide), hN' 100 (by decide)]
          exact hI r' i hr' hi
        · rw [hM' _ (by omega), zput_ne (by omega), hMc _ (by omega)]
        · rw [zpui_ne b, hN' k a]
        · rw [zpui_n2 hj, hN' 99 (by decide)]
      have hb8 : ∀ i, i < 8 → (M (2 + r) i).toInt.natAbs < 2 ^ 62 := fun i hi => by
        have := z_regab hI hr hi
        unfold zab at this
        omega
      refine s_countOf (a1 := 2 + r) (z_r8 hr) (by omega) hprm (by omega) hb8 (fun Mc f1 hz => ⟨z_o119, fun M4 e4 => hQ _ _ _ ?_⟩) (fun Mc f1 hm => ⟨z_o119, fun M4 e4 => hQ _ _ _ ?_⟩) (fun n F Mc N' n1 n8 hm f1 f2 f3 f4 f5 f6 f7 => ⟨z_o119, fun M4 e4 => hQ _ _ _ ?_⟩)
      · have e4' : M4 = zput Mc 119 0 (-1 : Int32).toInt64 := e4
        subst e4'
        refine s_Mo_modular (M0 := M) (N0 := N) hI rfl hr h2 hprm hp100 (fun M' g1 _ => fin (-1) Mc N (fun a ha => f1 a (by omega)) (fun _ _ => rfl) M' g1) (fun M' s F _ hnz _ => absurd hz hnz)
      · have e4' : M4 = zput Mc 119 0 (0 : Int32).toInt64 := e4
        subst e4'
        refine s_Mo_modular (M0 := M) (N0 := N) hI rfl hr h2 hprm hp100 (fun M' g1 hz => absurd (hz 0) hm.1) (fun M' s F g1 _ hf => ?_)
        have := pfin_0 hprm hf hm
        subst this
        exact fin 0 Mc N (fun a ha => f1 a (by omega)) (fun _ _ => rfl) M' g1
      · have e4' : M4 = zput Mc 119 0 (nI F).toInt64 := e4
        subst e4'
        refine s_Mo_modular (M0 := M) (N0 := N) hI (f2 100 (by decide)) hr h2 hprm hp100 (fun M' g1 hz => absurd (hz n) hm.1) (fun M' s P g1 _ hf => ?_)
        obtain ⟨v, hv⟩ := f5
        obtain ⟨w, hw⟩ := f6
        have d1 : dvp ((q + 2 : Nat) : Int) (prP 8 (M (2 + r))) (prP 8 (Mc 47)) := ⟨plX v 0, cg_trans hv (cg_eq (fun x => by rw [ev_K, ev_M, ev_X, Int.pow_zero]; grind))⟩
        have d2 : dvp ((q + 2 : Nat) : Int) (prP 8 (Mc 47)) (prP 8 (M (2 + r))) := ⟨plX w 0, cg_trans hw (cg_eq (fun x => by rw [ev_K, ev_M, ev_X, Int.pow_zero]; grind))⟩
        have := bkn_eq hprm f4 f7 (pfin_unit hf d1 d2) n8
        subst this
        exact fin (nI F) Mc N' (fun a ha => f1 a (by omega) (by omega)) f2 M' g1
    · have hb : ∀ t : Int32, ¬ t ≤ 0 → J_Mo_modular_24 (fun r4 M5 N6 => zth K t r4 M5 N6) a1 a2 t M N := fun t ht N7 e7 => by
        rw [e7, zpui_eq]
        refine ⟨fun c => absurd c ht, fun _ => z_th zpui_eq (fun h => absurd (by rw [h]; decide) ht) (hk _ _ (z_reg0 hI t) ⟨fun _ _ _ => rfl, fun k _ b _ => zpui_ne b, fun j hj => zpui_n2 hj⟩)⟩
      have hq : Q 2 M N := hQ _ _ _ (s_isReg (fun _ => ⟨fun _ => s_isSmall (fun h => absurd h h2) (fun _ => ⟨fun _ => hb 2 (by decide), fun h => absurd rfl h⟩), fun h => absurd h (by decide)⟩) (fun h => absurd h1 h))
      exact s_reg (fun _ => s_modulus (fun h => absurd h h2) (fun _ => ⟨fun h => absurd h (by decide), fun _ => hq, Or.inr rfl⟩)) (fun h => absurd h1 h)
  · have hb : ∀ t : Int32, ¬ t ≤ 0 → J_Mo_modular_24 (fun r4 M5 N6 => zth K t r4 M5 N6) a1 a2 t M N := fun t ht N7 e7 => by
      rw [e7, zpui_eq]
      refine ⟨fun c => absurd c ht, fun _ => z_th zpui_eq (fun h => absurd (by rw [h]; decide) ht) (hk _ _ (z_reg0 hI t) ⟨fun _ _ _ => rfl, fun k _ b _ => zpui_ne b, fun j hj => zpui_n2 hj⟩)⟩
    have hq : Q 1 M N := hQ _ _ _ (s_isReg (fun h => absurd h h1) (fun _ => ⟨fun h => absurd rfl h, fun _ => hb 1 (by decide)⟩))
    exact s_reg (fun h => absurd h h1) (fun _ => ⟨fun _ => hq, fun h => absurd h (by decide), Or.inl rfl⟩)
