/-! find as a whole. -/
theorem mt_nun {p : Int} (hp : prm p) {P : Pl} {d : Nat} (h : mt p P d) (hd : 1 ≤ d) : nun p P := fun c => by
  have h0 : mt p (plX 1 0) 0 := mt_of (by show ¬ p ∣ (if 0 = 0 then 1 else 0); exact prm_1 hp) (dl_X (by omega))
  have := dvp_mt hp h c h0
  omega
theorem prt_irr {q n F c : Nat} {M2 M1 : zM} {N1 : zN} (hp : prm ((q + 2 : Nat) : Int)) (hm : mon (prP 8 (M2 47)) n) (hn : n < 8) (hsq : sqf ((q + 2 : Nat) : Int) (prP 8 (M2 47))) (hb : bkn q n F M2) (h : prt q c (prP 8 (M2 47)) M1 N1) (hFc : F ≤ c) : ∀ i, i < c → ∃ d, 1 ≤ d ∧ irr ((q + 2 : Nat) : Int) (Pt M1 i) d := fun i hi => by
  obtain ⟨_, _, t3, t4⟩ := id h
  obtain ⟨_, d, d1, d8, dm⟩ := t3 i hi
  refine ⟨d, d1, dm, d1, fun a m ha h1 h2 hdv => ?_⟩
  obtain ⟨b, hab⟩ := hdv
  obtain ⟨t, tt1, tt2⟩ := mt_part hp hab (mon_mt hp dm) (mon_mt hp ha)
  let G : Nat → Pl := fun l => if l = c then b else if l = i then a else Pt M1 l
  have Gc : G c = b := if_pos rfl
  have Gi : G i = a := by
    show (if i = c then b else if i = i then a else Pt M1 i) = a
    rw [if_neg (by omega), if_pos rfl]
  have Gl : ∀ l, l < c → l ≠ i → G l = Pt M1 l := fun l x y => by
    show (if l = c then b else if l = i then a else Pt M1 l) = Pt M1 l
    rw [if_neg (by omega), if_neg y]
  have hprod : cg ((q + 2 : Nat) : Int) (prP 8 (M2 47)) (plQ G (c + 1)) := cg_trans t4 (Q_two (i := i) hi Gl (by rw [Gi, Gc]; exact hab))
  have hpw := sqf_pwc hp hsq hprod
  have := bkn_ge (r := c + 1) (P := G) hp hm hn hb (Q_iff hprod hpw) (fun l hl => by
    by_cases e : l = c
    · rw [e, Gc]; exact mt_nun hp tt1 (by omega)
    · by_cases e2 : l = i
      · rw [e2, Gi]; exact mt_nun hp (mon_mt hp ha) h1
      · rw [Gl l (by omega) e2]
        obtain ⟨_, x, x1, _, x3⟩ := t3 l (by omega)
        exact mt_nun hp (mon_mt hp x3) x1) hpw
  omega
theorem prt_all {q n F c : Nat} {M2 M1 : zM} {N1 : zN} (hp : prm ((q + 2 : Nat) : Int)) (hm : mon (prP 8 (M2 47)) n) (hn1 : 1 ≤ n) (hn : n < 8) (hsq : sqf ((q + 2 : Nat) : Int) (prP 8 (M2 47))) (hb : bkn q n F M2) (h : prt q c (prP 8 (M2 47)) M1 N1) (hs : ∀ t, 1 ≤ t → t < F → ∀ s, s < q + 2 → ∀ l, l < c → sep ((q + 2 : Nat) : Int) (Pt M1 l) (plS (prP 8 (M2 (37 + t))) (plX s 0))) : F ≤ c := by
  obtain ⟨_, _, t3, t4⟩ := id h
  have hpw := sqf_pwc hp hsq t4
  refine bkn_le (P := Pt M1) hp hm hn hb (Q_iff t4 hpw) (fun t i ht hi => ?_)
  rcases Nat.eq_zero_or_pos t with e | e
  · subst e
    refine ⟨1, dvp_0 (zr_S ?_)⟩
    exact (bkn_one hp hm hn hn1 hb).2
  · obtain ⟨_, d, d1, _, dm⟩ := t3 i hi
    refine Classical.byContradiction (fun c => ?_)
    have hc : ∀ k, k ≤ q + 2 → cop ((q + 2 : Nat) : Int) (Pt M1 i) (gs (prP 8 (M2 (37 + t))) k) := by
      intro k
      induction k with
      | zero => exact fun _ => cop_1
      | succ k ih =>
        intro hk
        refine cop_M (ih (by omega)) ?_
        rcases hs t e ht k (by omega) i hi with x | x
        · exact absurd ⟨k, x⟩ c
        · exact x
    have h1 : dvp ((q + 2 : Nat) : Int) (Pt M1 i) (gs (prP 8 (M2 (37 + t))) (q + 2)) := dvp_cg ((Q_iff t4 hpw _).mp (bkn_ker hp hm hn hb ht) i hi) (cg_symm (vpv hp _))
    exact mt_nun hp (mon_mt hp dm) d1 (cop_dvp1 (hc (q + 2) (Nat.le_refl _)) dvp_refl h1)
theorem s_MP_find {K : zM → zN → Prop} {a1 q n : Nat} {M : zM} {N : zN} (h1 : zlong a1 = 8) (r1 : a1 ≠ 47) (hp : prm ((q + 2 : Nat) : Int)) (p1 : q + 2 < 1000) (hA : ∀ i, i < 8 → (M a1 i).toInt.natAbs < 2 ^ 62) (hn1 : 1 ≤ n) (hmt : mt ((q + 2 : Nat) : Int) (prP 8 (M a1)) n) (hsq : sqf ((q + 2 : Nat) : Int) (prP 8 (M a1)))
    (k : ∀ (c : Nat) (f : Pl) (M' : zM) (N' : zN), (∀ a, ¬ (19 ≤ a ∧ a ≤ 50) → M' a = M a) → (∀ a, a ≠ 17 → a ≠ 45 → N' a = N a) → (∀ j, j ≠ 1 → N' 17 j = N 17 j) → n < 8 → mon f n → (∃ v, cg ((q + 2 : Nat) : Int) (prP 8 (M a1)) (plK v f)) → (∃ v, cg ((q + 2 : Nat) : Int) f (plK v (prP 8 (M a1)))) → prt q c f M' N' → (∀ i, i < c → ∃ d, 1 ≤ d ∧ irr ((q + 2 : Nat) : Int) (Pt M' i) d) → K M' N') : w_MP_find a1 (lN (q + 2)) M N K := by
  refine s_countOf h1 r1 hp (by omega) hA (fun M2 _ hz => absurd (hz n) hmt.1) (fun M2 _ hz => by have := mt_uniq hz hmt; omega) (fun n' F M2 N2 m1 m2 m3 f1 f2 f3 f4 f5 f6 f7 => ?_)
  have en := mt_uniq m3 hmt
  subst en
  obtain ⟨vw, hw⟩ := f6
  have hsf : sqf ((q + 2 : Nat) : Int) (prP 8 (M2 47)) := by
    obtain ⟨u, t, hu⟩ := hsq
    have hT := cg_T hw
    have eT : plT (plK vw (prP 8 (M2 47))) = plK vw (plT (prP 8 (M2 47))) := pl_ext (fun i => by
      show ((i : Int) + 1) * (vw * (prP 8 (M2 47)).1 (i + 1)) = vw * (((i : Int) + 1) * (prP 8 (M2 47)).1 (i + 1))
      rw [← Int.mul_assoc, ← Int.mul_assoc, Int.mul_comm ((i : Int) + 1)])
    rw [eT] at hT
    refine ⟨plK vw u, plK vw t, cg_trans hu (cg_trans (cg_A (cg_M cg_refl hw) (cg_M cg_refl hT)) (cg_eq (fun x => ?_)))⟩
    simp only [ev_A, ev_M, ev_K]
    rw [Int.mul_comm vw (ev u x), Int.mul_comm vw (ev t x), Int.mul_assoc, Int.mul_assoc]
  refine ⟨vp_in_nI (n := 0) (N := 8) (by decide) (by decide), ?_⟩
  have ec : (0 : Int32).toNatClampNeg = 0 := by decide
  rw [ec]
  refine s_copyInto (by decide) (by decide) (fun M5 f8 f9 N7 e7 => ?_)
  have h19 : Pt M5 0 = prP 8 (M2 47) := prP_congr f9
  have p0 : prt q 1 (prP 8 (M2 47)) M5 N7 := by
    refine ⟨by rw [e7, zpui_eq]; rfl, Nat.le_refl _, fun i hi => ?_, ?_⟩
    · have : i = 0 := by omega
      subst this
      rw [h19]
      exact ⟨fun l hl => by rw [show 19 + 0 = 18 + 1 + 0 from rfl, f9 l hl]; exact f3 l hl, n', hn1, m2, f4⟩
    · refine cg_eq (fun x => ?_)
      show _ = ev (plM (plX 1 0) (Pt M5 0)) x
      rw [h19, ev_M, ev_X, Int.pow_zero, Int.one_mul, Int.one_mul]
  have fin : ∀ (c : Nat) (M1 : zM) (N1 : zN), (∀ a, ¬ (19 ≤ a ∧ a < 27) → ¬ (48 ≤ a ∧ a ≤ 50) → M1 a = M5 a) → (∀ a, a ≠ 17 → N1 a = N7 a) → (∀ j, j ≠ 1 → N1 17 j = N7 17 j) → prt q c (prP 8 (M2 47)) M1 N1 → F ≤ c → K M1 N1 := fun c M1 N1 g1 g2 g3 g4 hFc => by
    refine k c (prP 8 (M2 47)) M1 N1 (fun a ha => ?_) (fun a x y => ?_) (fun j hj => ?_) m2 f4 ⟨vw, hw⟩ f5 g4 (prt_irr hp f4 m2 hsf f7 g4 hFc)
    · rw [g1 a (by omega) (by omega), f8 a (by omega), f1 a (by omega) (by omega)]
    · rw [g2 a x, e7, zpui_ne x, f2 a y]
    · rw [g3 j hj, e7, zpui_n2 hj, f2 17 (by decide)]
  have k37 : ∀ M1 : zM, (∀ a, ¬ (19 ≤ a ∧ a < 27) → ¬ (48 ≤ a ∧ a ≤ 50) → M1 a = M5 a) → ∀ t, t < 8 → M1 (37 + t) = M2 (37 + t) := fun M1 g t ht => by rw [g (37 + t) (by omega) (by omega), f8 (37 + t) (by omega)]
  obtain ⟨_, _, _, _, _, _, hFn, hkr, _⟩ := id f7
  have key : ∀ e i c (M1 : zM) (N1 : zN), F ≤ i + e → 1 ≤ i → i ≤ 8 → (∀ a, ¬ (19 ≤ a ∧ a < 27) → ¬ (48 ≤ a ∧ a ≤ 50) → M1 a = M5 a) → (∀ a, a ≠ 17 → N1 a = N7 a) → (∀ j, j ≠ 1 → N1 17 j = N7 17 j) → prt q c (prP 8 (M2 47)) M1 N1 → (F ≤ c ∨ ∀ t, 1 ≤ t → t < i → ∀ s, s < q + 2 → ∀ l, l < c → sep ((q + 2 : Nat) : Int) (Pt M1 l) (plS (prP 8 (M2 (37 + t))) (plX s 0))) → L_MP_find_29 K (lN (q + 2)) (nI F) (e + 1) (nI i) M1 N1 := by
    intro e
    induction e with
    | zero =>
      intro i c M1 N1 hi i1 i8 g1 g2 g3 g4 g5
      refine ⟨fun _ => fin c M1 N1 g1 g2 g3 g4 ?_, fun x => absurd (nI_le (by omega) (by omega)) x⟩
      rcases g5 with x | x
      · exact x
      · exact prt_all hp f4 hn1 m2 hsf f7 g4 (fun t a b => x t a (by omega))
    | succ e ih =>
      intro i c M1 N1 hi i1 i8 g1 g2 g3 g4 g5
      have hcn := prt_le hp f4 g4
      by_cases hFi : F ≤ i
      · have hFc : F ≤ c := by
          rcases g5 with x | x
          · exact x
          · exact prt_all hp f4 hn1 m2 hsf f7 g4 (fun t a b => x t a (by omega))
        exact ⟨fun _ => fin c M1 N1 g1 g2 g3 g4 hFc, fun x => absurd (nI_le hFi (by omega)) x⟩
      · refine ⟨fun x => absurd x (nI_ge (by omega) (by omega)), fun _ => ⟨fun x => ?_, fun x => ?_⟩⟩
        · rw [g4.1, nI_leI (by omega) (by omega)] at x
          exact fin c M1 N1 g1 g2 g3 g4 x
        · rw [g4.1, nI_leI (by omega) (by omega)] at x
          have g5' : ∀ t, 1 ≤ t → t < i → ∀ s, s < q + 2 → ∀ l, l < c → sep ((q + 2 : Nat) : Int) (Pt M1 l) (plS (prP 8 (M2 (37 + t))) (plX s 0)) := by
            rcases g5 with y | y
            · exact absurd y x
            · exact y
          have inner : ∀ u s c (M1 : zM) (N1 : zN), s + u = q + 2 → (∀ a, ¬ (19 ≤ a ∧ a < 27) → ¬ (48 ≤ a ∧ a ≤ 50) → M1 a = M5 a) → (∀ a, a ≠ 17 → N1 a = N7 a) → (∀ j, j ≠ 1 → N1 17 j = N7 17 j) → prt q c (prP 8 (M2 47)) M1 N1 → (∀ t, 1 ≤ t → t < i → ∀ s, s < q + 2 → ∀ l, l < c → sep ((q + 2 : Nat) : Int) (Pt M1 l) (plS (prP 8 (M2 (37 + t))) (plX s 0))) → (∀ s', s' < s → ∀ l, l < c → sep ((q + 2 : Nat) : Int) (Pt M1 l) (plS (prP 8 (M2 (37 + i))) (plX s' 0))) → L_MP_find_48 K (L_MP_find_29 K (lN (q + 2)) (nI F) (e + 1)) (lN (q + 2)) (nI F) (nI i) (u + 1) (nI s) M1 N1 := by
            intro u
            induction u with
            | zero =>
              intro s c M1 N1 hs y1 y2 y3 y4 y5 y6
              have : s = q + 2 := by omega
              subst this
              refine ⟨fun _ => ?_, fun z => absurd (by rw [nI_l (by omega)]; exact Int64.le_refl _) z⟩
              rw [nI_1]
              refine ih (i + 1) c M1 N1 (by omega) (by omega) (by omega) y1 y2 y3 y4 (Or.inr (fun t a b s hs => ?_))
              by_cases et : t = i
              · rw [et]; exact y6 s hs
              · exact y5 t a (by omega) s hs
            | succ u ihu =>
              intro s c M1 N1 hs y1 y2 y3 y4 y5 y6
              have hcn2 := prt_le hp f4 y4
              have hlt : ¬ lN (q + 2) ≤ (nI s).toInt64 := by
                rw [nI_l (by omega), pk_lLE (by omega) (by omega)]
                omega
              refine ⟨fun z => absurd z hlt, fun _ => ⟨fun z => ?_, fun z => ⟨vp_in_nI (N := 8) (by omega) (by decide), ?_⟩⟩⟩
              · rw [y4.1, nI_leI (by omega) (by omega)] at z
                rw [nI_1]
                exact ih (i + 1) c M1 N1 (by omega) (by omega) (by omega) y1 y2 y3 y4 (Or.inl z)
              · rw [nI_clamp (by omega), nI_l (by omega)]
                have ek := k37 M1 y1 i (by omega)
                refine s_splitAll (z37 i (by omega)) (by omega) hp p1 (by omega) f4 m2 hsf (by rw [show 36 + 1 + i = 37 + i by omega, ek]; exact (hkr i (by omega)).1) y4 (fun c' M9 N9 w1 w2 w3 w4 w5 w6 => ?_)
                rw [show 36 + 1 + i = 37 + i by omega, ek] at w6
                rw [nI_1]
                refine ihu (s + 1) c' M9 N9 (by omega) (fun a x y => by rw [w1 a x y]; exact y1 a x y) (fun a x => by rw [w2 a x]; exact y2 a x) (fun j hj => by rw [w3 j hj]; exact y3 j hj) w4 (fun t a b s2 hs2 l hl => ?_) (fun s' hs' l hl => ?_)
                · obtain ⟨j, j1, j2⟩ := w5 l hl
                  exact sep_dvp (y5 t a b s2 hs2 j j1) j2
                · by_cases es : s' = s
                  · rw [es]; exact w6 l hl
                  · obtain ⟨j, j1, j2⟩ := w5 l hl
                    exact sep_dvp (y6 s' (by omega) j j1) j2
          exact ⟨q + 2 + 1, inner (q + 2) 0 c M1 N1 (by omega) g1 g2 g3 g4 g5' (fun s' hs' => absurd hs' (Nat.not_lt_zero _))⟩
  exact ⟨F + 1, key F 1 1 M5 N7 (by omega) (Nat.le_refl _) (by decide) (fun _ _ _ => rfl) (fun _ _ => rfl) (fun _ _ => rfl) p0 (Or.inr (fun t a b => by omega))⟩
