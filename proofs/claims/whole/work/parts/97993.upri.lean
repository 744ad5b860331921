/-! The law's step for prime. -/
theorem z_pm1 {x : Int} (h : x.natAbs = 1) : x = 1 ∨ x = -1 := by omega
theorem rowW_ex {f : Nat → Int64} {n0 : Nat} (n08 : n0 < 8) (hd : zdg f 8 = n0 + 1) (hb : ∀ i, i < 8 → zab (f i) ≤ 99999) : ∃ (cc : Int64) (W : Pl), cc.toInt.natAbs = zgc f 8 ∧ (∀ i, i < 8 → (f i).toInt = cc.toInt * W.1 i) ∧ 0 < W.1 n0 ∧ dl (n0 + 1) W := by
  obtain ⟨_, hnz, hz⟩ := zdg_s hd
  have cpos := zgc_pos (f := f) n08 hnz
  have cle := zgc_le (f := f) (B := 99999) 8 hb
  have eln : (lN (zgc f 8)).toInt = (zgc f 8 : Int) := pk_lT (by omega)
  obtain ⟨cc, hcc, hs⟩ : ∃ cc : Int64, cc.toInt.natAbs = zgc f 8 ∧ (0 < cc.toInt ↔ 0 ≤ (f n0).toInt) := by
    by_cases c : 0 ≤ (f n0).toInt
    · exact ⟨lN (zgc f 8), by rw [eln]; omega, by rw [eln]; omega⟩
    · have e2 : (-(lN (zgc f 8))).toInt = -(zgc f 8 : Int) := by rw [zx_neg (by rw [eln]; omega), eln]
      exact ⟨-(lN (zgc f 8)), by rw [e2]; omega, by rw [e2]; omega⟩
  have c0 : cc.toInt ≠ 0 := fun x => by omega
  have dv : ∀ i, i < 8 → cc.toInt ∣ (f i).toInt := fun i hi => Int.natAbs_dvd_natAbs.mp (by rw [hcc]; exact zgc_dvd hi)
  refine ⟨cc, ⟨fun i => pr 8 f i / cc.toInt, 8, fun i hi => by show pr 8 f i / cc.toInt = 0; rw [pr_ge hi]; exact Int.zero_ediv _⟩, hcc, fun i hi => ?_, ?_, fun i hi => ?_⟩
  · show (f i).toInt = cc.toInt * (pr 8 f i / cc.toInt)
    rw [pr_lt hi, Int.mul_ediv_cancel' (dv i hi)]
  · show 0 < pr 8 f n0 / cc.toInt
    rw [pr_lt n08]
    obtain ⟨y, hy⟩ := dv n0 n08
    have hne : (f n0).toInt ≠ 0 := fun x => hnz (by rw [← Int64.toInt_inj, x]; rfl)
    rw [hy, Int.mul_ediv_cancel_left _ c0]
    rcases Int.lt_or_le 0 y with q | q
    · exact q
    · exfalso
      rcases Int.lt_or_le 0 cc.toInt with t | t
      · have := Int.mul_nonpos_of_nonneg_of_nonpos (Int.le_of_lt t) q
        have := hs.mp t
        omega
      · have := Int.mul_nonneg_of_nonpos_of_nonpos t q
        have h2 : ¬ 0 < cc.toInt := by omega
        exact h2 (hs.mpr (by omega))
  · show pr 8 f i / cc.toInt = 0
    rcases Nat.lt_or_ge i 8 with q | q
    · rw [pr_lt q, hz i (by omega) q]
      exact Int.zero_ediv _
    · rw [pr_ge q]
      exact Int.zero_ediv _
theorem u_prime {a1 : Int32} {M : zM} {N : zN} {K : zM → zN → Prop} {Q : Int32 → zM → zN → Prop} (hI : zreg M N) (hfc : zfct M N) (hgr : zgr N) (hk : ∀ M' N', zreg M' N' → zfct M' N' → zgr N' → K M' N') (hQ : ∀ q M1 N1, w_Mo_prime a1 M1 N1 (fun r4 M5 N6 => zthB K q r4 M5 N6) → Q q M1 N1) : w_La_prime a1 M N Q := by
  by_cases h1 : zR a1 4
  · obtain ⟨r, hr, rfl⟩ := id h1
    refine s_reg (fun _ => ⟨z_gn hr, ?_⟩) (fun h => absurd h1 h)
    rw [nI_clamp (by omega)]
    have le8 := zdg_le (M (2 + r)) 8
    -- what both answer
    have keep : ∀ (x : Int32) (M' : zM) (N' : zN), N' 99 0 = 0 → M' 119 0 = (if x = 0 then 0 else 1) → (∀ a, 2 ≤ a → a ≤ 5 → M' a = M a) → (∀ a, 79 ≤ a → a ≤ 88 → M' a = M a) → M' 102 = M 102 → (∀ a, a = 79 ∨ a = 88 ∨ a = 100 ∨ a = 101 ∨ a = 118 → N' a = N a) → N' 99 2 = N 99 2 → N' 99 3 = N 99 3 → zthB K 0 x M' N' := fun x M' N' z m w1 w2 w3 w4 w5 w6 =>
      z_thB z (fun _ => m) (hk _ _ (zreg_keep hI w1 (w4 100 (by decide))) (zfct_keep hfc w2 w3 (w4 79 (by decide)) (w4 88 (by decide)) (w4 101 (by decide)) w5 w6) (zgr_keep hgr (w4 118 (by decide))))
    -- the reference up to its answer
    have ref : ∀ (M4 : zM) (N9 : zN), N9 100 = N 100 → (∀ (M6 : zM), (∀ a, a ≠ 106 → M6 a = M4 a) → (∀ i, i < 8 → M6 106 i = M (2 + r) i) → ((1 : Int32) ≤ nI (zdg (M (2 + r)) 8) + (-1) → w_Mo_prepare (nI r) M6 (zpui N9 99 0 0) (fun r11 M12 => (r11 = (1 : Int32) → J_Mo_prime_78 (fun r4 M5 N6 => zthB K 0 r4 M5 N6) M12 (zpui N9 99 0 0)) ∧ (¬ r11 = (1 : Int32) → (r11 = (-1 : Int32) → J_Mo_prime_78 (fun r4 M5 N6 => zthB K 0 r4 M5 N6) M12 (zpui N9 99 0 0)) ∧ (¬ r11 = (-1 : Int32) → narrow .boolean (.int (0 : Int32)) = .int (0 : Int32) ∧ zthB K 0 0 M12 (zpui N9 99 0 0))))) ∧ (¬ (1 : Int32) ≤ nI (zdg (M (2 + r)) 8) + (-1) → w_Mo_amount (M6 106 0) (fun r14 => w_Mo_isPrimeNumber r14 (fun r17 => narrow .boolean (.int r17) = .int r17 ∧ zthB K 0 r17 M6 (zpui N9 99 0 0))))) → w_Mo_prime (nI r) M4 N9 (fun r4 M5 N6 => zthB K 0 r4 M5 N6) := by
      intro M4 N9 n91 h
      refine s_isReg (fun _ => ⟨fun h => absurd h (by decide), fun _ N4 e4 => ?_⟩) (fun h => absurd h1 h)
      have z4 : N4 99 0 = 0 := by rw [e4, zpui_eq]
      rw [z4]
      refine ⟨fun _ => s_Mo_load hr (by decide) (fun M6 f1 f2 => s_Mo_degreeOf (by decide) ?_), fun c => absurd (by decide) c⟩
      have hzl : zld N4 r = zld N r := by unfold zld; rw [e4, zpui_ne (by decide), n91]
      rw [hzl] at f2
      obtain ⟨u6, w6⟩ := zld_row (M' := M6) (c := 106) hI hr f2
      rw [zdg_up (n := 8) (by decide) w6, zdg_congr u6, e4]
      obtain ⟨x1, x2⟩ := h M6 f1 u6
      exact ⟨x1, fun c => ⟨vp_in_nI (n := 0) (N := 16) (by decide) (by decide), x2 c⟩⟩
    refine s_Ro_degreeOf (a0 := 2 + r) (z_r8 hr) (by decide) (by decide) ?_
    refine ⟨fun hd1 => ?_, fun hd1 => ?_⟩
    · -- degree at least 1
      obtain ⟨n0, hd⟩ : ∃ n0, zdg (M (2 + r)) 8 = n0 + 1 := ⟨zdg (M (2 + r)) 8 - 1, by
        rcases Nat.eq_zero_or_pos (zdg (M (2 + r)) 8) with c | c
        · rw [c] at hd1; exact absurd hd1 (by decide)
        · omega⟩
      have n01 : 1 ≤ n0 := by
        rw [hd, pk_m1] at hd1
        exact (nI_leI (a := 1) (by decide) (by omega)).mp hd1
      obtain ⟨n08, hnz, _⟩ := zdg_s hd
      have cpos := zgc_pos (f := M (2 + r)) n08 hnz
      have cle := zgc_le (f := M (2 + r)) (B := 99999) 8 (fun i hi => z_regab hI hr hi)
      refine s_Ro_contentOf (a0 := 2 + r) (n := 8) (z_r8 hr) (by decide) (by decide) (fun i hi => by have := z_regab hI hr hi; omega) ?_
      refine ⟨fun c1 => ?_, fun c1 => ⟨rfl, ?_⟩⟩
      · -- content 1
        have hc1 : zgc (M (2 + r)) 8 = 1 := (pk_lEQ (a := zgc (M (2 + r)) 8) (b := 1) (by omega) (by decide)).mp c1
        refine s_takeApart (a1 := 2 + r) (a2 := 89) (n0 := n0) (Or.inr rfl) (z_r8 hr) (by omega) (fun i hi => z_regab hI hr hi) hd (fun cc W M11 N12 f1 f2 f3 f4 f5 f6 f7 f8 f9 f10 f11 f12 f13 => ?_)
        obtain ⟨hW, O, n, p, rc, ho, rc1, rc7, hrc, hfac⟩ := f13 n01
        obtain ⟨dO, _⟩ := opn_f hW ho
        have n91 : N12 100 = N 100 := f3 100 (by decide) (by decide) (by decide) (by decide)
        have n9g : zgr N12 := zgr_keep hgr (f3 118 (by decide) (by decide) (by decide) (by decide))
        -- the reference
        have go : ∀ (x : Int32) (M4 : zM), M4 = zput M11 119 0 (if x = 0 then 0 else 1) → (x = 0 ∨ x = 1) → (x = 1 ↔ rc = 1 ∧ N12 98 0 = 1) → Q 0 M4 N12 := by
          intro x M4 e4 hx hiff
          refine hQ _ _ _ (ref M4 N12 n91 (fun M6 g1 g2 => ⟨fun _ => ?_, fun c => absurd hd1 c⟩))
          have cab : cc.toInt = 1 ∨ cc.toInt = -1 := z_pm1 (f7.trans hc1)
          have fr : ∀ a, ¬ (11 ≤ a ∧ a ≤ 16) → ¬ (19 ≤ a ∧ a ≤ 78) → ¬ (89 ≤ a ∧ a < 98) → a ≠ 106 → a ≠ 119 → M6 a = M a := fun a y1 y2 y3 y4 y5 => by
            rw [g1 a y4, e4, zput_ne y5]
            exact f1 a y1 y2 (by omega)
          have e119 : M6 119 0 = if x = 0 then 0 else 1 := by rw [g1 119 (by decide), e4, zput_eq]
          have n120 : ∀ a, a ≠ 99 → zpui N12 99 0 0 a = N12 a := fun a y => zpui_ne y
          have J : ∀ M12 : zM, (∀ a, a ≠ 104 → M12 a = M6 a) → prP 16 (M12 104) = W → J_Mo_prime_78 (fun r4 M5 N6 => zthB K 0 r4 M5 N6) M12 (zpui N12 99 0 0) := by
            intro M12 y1 y2
            refine s_Mo_takeApart (w := n0) (W := W) (O := O) (n := n) (p := p) (zgr_keep n9g (n120 118 (by decide))) y2 n08 f10 f11 (fun _ => ⟨hW, ho⟩) (fun h0 => by omega) (fun _ rr M21 N22 q1 q2 q3 q4 q5 q6 q7 q8 => ?_)
            have ans : ∀ (z : Int32) (M24 : zM), (∀ a, a ≠ 104 → a ≠ 106 → a ≠ 109 → a ≠ 110 → M24 a = M21 a) → (z = 0 ↔ x = 0) → zthB K 0 z M24 N22 := by
              intro z M24 t1 hz
              have fr24 : ∀ a, ¬ (11 ≤ a ∧ a ≤ 16) → ¬ (19 ≤ a ∧ a ≤ 78) → ¬ (89 ≤ a ∧ a < 98) → ¬ (103 ≤ a ∧ a ≤ 117) → a ≠ 119 → M24 a = M a := fun a z1 z2 z3 z4 z5 => by
                rw [t1 a (by omega) (by omega) (by omega) (by omega), q1 a (Or.inl z4), y1 a (by omega)]
                exact fr a z1 z2 z3 (by omega) z5
              have frN : ∀ a, a ≠ 99 → a ≠ 17 → a ≠ 45 → a ≠ 89 → a ≠ 98 → N22 a = N a := fun a z1 z2 z3 z4 z5 => by
                rw [q2 a z1, n120 a z1]
                exact f3 a z2 z3 z4 z5
              have frN9 : ∀ j, j ≠ 0 → j ≠ 6 → N22 99 j = N 99 j := fun j z1 z2 => by
                rw [q3 j z2, zpui_n2 z1, f3 99 (by decide) (by decide) (by decide) (by decide)]
              refine keep z M24 N22 (by rw [q3 0 (by decide), zpui_eq]) ?_ (fun a z1 z2 => fr24 a (by omega) (by omega) (by omega) (by omega) (by omega)) (fun a z1 z2 => fr24 a (by omega) (by omega) (by omega) (by omega) (by omega)) (fr24 102 (by decide) (by decide) (by decide) (by decide) (by decide)) (fun a ha => frN a (by omega) (by omega) (by omega) (by omega) (by omega)) (frN9 2 (by decide) (by decide)) (frN9 3 (by decide) (by decide))
              rw [t1 119 (by decide) (by decide) (by decide) (by decide), q1 119 (by omega), y1 119 (by decide), e119]
              by_cases c : x = 0
              · rw [if_pos c, if_pos (hz.mpr c)]
              · rw [if_neg c, if_neg (fun y => c (hz.mp y))]
            -- both lists have the same length
            have hset : rr = rc := by
              have := srt_uniq q8 hfac.1 (fun i hi => by
                obtain ⟨d, d1, d2⟩ := q7.1 i hi
                exact hfac.2.2 _ d d1 d2) (fun j hj => by
                obtain ⟨d, e, d1, d2, _⟩ := hfac.2.1 j hj
                exact q7.2.2 _ d d1 d2)
              exact this.1
            refine ⟨fun c => ⟨rfl, ans 0 M21 (fun _ _ _ _ _ => rfl) ⟨fun _ => ?_, fun _ => rfl⟩⟩, fun c => ?_⟩
            · rcases hx with y | y
              · exact y
              · exfalso
                refine c ?_
                rw [q4, hset, (hiff.mp y).1]; rfl
            · have rr1 : rr = 1 := by
                rw [q4] at c
                exact (nI_eq (b := 1) (by omega) (by decide)).mp c
              obtain ⟨d, d1, d2⟩ := q7.1 0 (by omega)
              refine s_often (i := 0) (W := W) (F := Nf M21 0) (A := W) (d := d) hW (by decide) (by rw [q1 104 (by omega)]; exact y2) dvz_refl rfl d1 (dvz_trans d2 dO) (fun e M24 t1 e7 t2 t3 => ?_)
              have hm : mlt (Nf M21 0) W e := ⟨_, t2, t3⟩
              -- the class's times
              obtain ⟨d', e', a1, a2, a3, a4, a5⟩ := hfac.2.1 0 (by omega)
              have eF : Nf M21 0 = Fr 89 M11 0 := by
                obtain ⟨i, hi, hh⟩ := hfac.2.2 _ d d1 d2
                have : i = 0 := by omega
                rw [hh, this]
              rw [eF] at hm
              have ee := mlt_uniq (irz_nz a1) hm a3
              have e98 : N12 98 0 = nI e := by rw [ee]; exact a5
              refine ⟨fun c2 => ⟨rfl, ans 0 M24 t1 ⟨fun _ => ?_, fun _ => rfl⟩⟩, fun c2 => ⟨rfl, ans 1 M24 t1 ⟨fun y => absurd y (by decide), fun y => ?_⟩⟩⟩
              · rcases hx with y | y
                · exact y
                · exfalso
                  refine c2 ?_
                  rw [← e98]
                  exact (hiff.mp y).2
              · exfalso
                have : x = 1 := hiff.mpr ⟨by omega, by rw [e98]; exact c2⟩
                rw [this] at y
                exact absurd y (by decide)
          refine s_prepare (M0 := M) (N0 := N) (W := W) (cc := cc) hI (by rw [zpui_ne (by decide)]; exact n91) hr hd f7 f8 f10 f11 (fun M12 y1 y2 => ?_)
          refine ⟨fun _ => J M12 y1 y2, fun c => ⟨fun _ => J M12 y1 y2, fun c' => ?_⟩⟩
          exfalso
          rcases cab with y | y
          · exact c (by have : cc = 1 := Int64.toInt_inj.mp y; rw [this]; rfl)
          · exact c' (by have : cc = -1 := Int64.toInt_inj.mp y; rw [this]; rfl)
        have x0 : ∀ (x : Int32), ((x = 0 → vp_in (0 : Int32) (zlong 119) ∧ ∀ M4 : zM, M4 = zput M11 119 (0 : Int32).toNatClampNeg (0 : Int64) → Q (0 : Int32) M4 N12) ∧ (¬ x = 0 → vp_in (0 : Int32) (zlong 119) ∧ ∀ M5 : zM, M5 = zput M11 119 (0 : Int32).toNatClampNeg (1 : Int64) → Q (0 : Int32) M5 N12)) ↔ ((x = 0 → ∀ M4 : zM, M4 = zput M11 119 0 (0 : Int64) → Q (0 : Int32) M4 N12) ∧ (¬ x = 0 → ∀ M5 : zM, M5 = zput M11 119 0 (1 : Int64) → Q (0 : Int32) M5 N12)) := fun x => ⟨fun h => ⟨fun e => (h.1 e).2, fun e => (h.2 e).2⟩, fun h => ⟨fun e => ⟨z_o119, h.1 e⟩, fun e => ⟨z_o119, h.2 e⟩⟩⟩
        refine ⟨fun c => ⟨rfl, ?_⟩, fun c => ⟨vp_in_nI (n := 0) (N := 7) (by decide) (by decide), fun c2 => ⟨rfl, ?_⟩, fun c2 => ⟨rfl, ?_⟩⟩⟩
        · refine (x0 0).mpr ⟨fun _ M4 e4 => go 0 M4 (by rw [if_pos rfl]; exact e4) (Or.inl rfl) ⟨fun y => absurd y (by decide), fun ⟨y, _⟩ => ?_⟩, fun y => absurd rfl y⟩
          exfalso
          refine c ?_
          rw [hrc, y]; rfl
        · refine (x0 0).mpr ⟨fun _ M4 e4 => go 0 M4 (by rw [if_pos rfl]; exact e4) (Or.inl rfl) ⟨fun y => absurd y (by decide), fun ⟨_, y⟩ => ?_⟩, fun y => absurd rfl y⟩
          exact absurd y c2
        · refine (x0 1).mpr ⟨fun y => absurd y (by decide), fun _ M4 e4 => go 1 M4 (by rw [if_neg (by decide)]; exact e4) (Or.inr rfl) ⟨fun _ => ⟨?_, c2⟩, fun _ => rfl⟩⟩
          rw [hrc] at c
          exact (nI_eq (b := 1) (by omega) (by decide)).mp c
      · -- content not 1
        have hc1 : zgc (M (2 + r)) 8 ≠ 1 := fun y => c1 (by rw [y]; rfl)
        refine ⟨fun _ => ⟨z_o119, fun M4 e4 => hQ _ _ _ (ref M4 N rfl (fun M6 g1 g2 => ⟨fun _ => ?_, fun c => absurd hd1 c⟩))⟩, fun y => absurd rfl y⟩
        have e4' : M4 = zput M 119 0 0 := e4
        -- a primitive row and its sign
        obtain ⟨cc, W, f7, f8, f10, f11⟩ : ∃ (cc : Int64) (W : Pl), cc.toInt.natAbs = zgc (M (2 + r)) 8 ∧ (∀ i, i < 8 → (M (2 + r) i).toInt = cc.toInt * W.1 i) ∧ 0 < W.1 n0 ∧ dl (n0 + 1) W := rowW_ex n08 hd (fun i hi => z_regab hI hr hi)
        refine s_prepare (M0 := M) (N0 := N) (W := W) (cc := cc) hI (by rw [zpui_ne (by decide)]) hr hd f7 f8 f10 f11 (fun M12 y1 y2 => ?_)
        have cb : cc.toInt.natAbs ≤ 99999 := by omega
        have ci : cc.toInt32.toInt = cc.toInt := zx_i (by omega) (by omega)
        refine ⟨fun y => ?_, fun _ => ⟨fun y => ?_, fun _ => ⟨rfl, ?_⟩⟩⟩
        · exfalso
          rw [y] at ci
          have : (1 : Int32).toInt = 1 := by decide
          omega
        · exfalso
          rw [y] at ci
          have : (-1 : Int32).toInt = -1 := by decide
          omega
        · have fr : ∀ a, a ≠ 104 → a ≠ 106 → a ≠ 119 → M12 a = M a := fun a z1 z2 z3 => by rw [y1 a z1, g1 a z2, e4', zput_ne z3]
          refine keep 0 M12 _ zpui_eq (by rw [y1 119 (by decide), g1 119 (by decide), e4', zput_eq, if_pos rfl]) (fun a z1 z2 => fr a (by omega) (by omega) (by omega)) (fun a z1 z2 => fr a (by omega) (by omega) (by omega)) (fr 102 (by decide) (by decide) (by decide)) (fun a ha => zpui_ne (by omega)) (zpui_n2 (by decide)) (zpui_n2 (by decide))
    · -- a number
      have hx := z_regab hI hr (i := 0) (by decide)
      have num : ∀ x : Int32, (x = 0 ∨ x = 1) → (x = 1 ↔ zpr (zab (M (2 + r) 0))) → ∀ M4 : zM, M4 = zput M 119 0 (if x = 0 then 0 else 1) → Q 0 M4 N := by
        intro x hx01 hiff M4 e4
        refine hQ _ _ _ (ref M4 N rfl (fun M6 g1 g2 => ⟨fun c => absurd c hd1, fun _ => ?_⟩))
        have fr : ∀ a, a ≠ 106 → a ≠ 119 → M6 a = M a := fun a z2 z3 => by rw [g1 a z2, e4, zput_ne z3]
        have fin : ∀ z : Int32, (z = 0 ↔ x = 0) → zthB K 0 z M6 (zpui N 99 0 0) := fun z hz => by
          refine keep z M6 _ zpui_eq ?_ (fun a z1 z2 => fr a (by omega) (by omega)) (fun a z1 z2 => fr a (by omega) (by omega)) (fr 102 (by decide) (by decide)) (fun a ha => zpui_ne (by omega)) (zpui_n2 (by decide)) (zpui_n2 (by decide))
          rw [g1 119 (by decide), e4, zput_eq]
          by_cases c : x = 0
          · rw [if_pos c, if_pos (hz.mpr c)]
          · rw [if_neg c, if_neg (fun y => c (hz.mp y))]
        rw [g2 0 (by decide)]
        refine s_amount (by omega) (s_Mo_isPrime (by omega) (fun hp => ⟨rfl, fin 1 ⟨fun y => absurd y (by decide), fun y => ?_⟩⟩) (fun hp => ⟨rfl, fin 0 ⟨fun _ => ?_, fun _ => rfl⟩⟩))
        · exfalso
          rw [hiff.mpr hp] at y
          exact absurd y (by decide)
        · rcases hx01 with y | y
          · exact y
          · exact absurd (hiff.mp y) hp
      have hJ : ∀ t : Int64, t = lN (zab (M (2 + r) 0)) → w_IS_isPrimeNumber t (fun r15 => narrow .boolean (.int r15) = .int r15 ∧ ((r15 = 0 → vp_in (0 : Int32) (zlong 119) ∧ ∀ M4 : zM, M4 = zput M 119 (0 : Int32).toNatClampNeg (0 : Int64) → Q (0 : Int32) M4 N) ∧ (¬ r15 = 0 → vp_in (0 : Int32) (zlong 119) ∧ ∀ M5 : zM, M5 = zput M 119 (0 : Int32).toNatClampNeg (1 : Int64) → Q (0 : Int32) M5 N))) := fun t et => by
        rw [et]
        refine s_IS_isPrime (by omega) (fun hp => ⟨rfl, fun y => absurd y (by decide), fun _ => ⟨z_o119, fun M5 e5 => num 1 (Or.inr rfl) ⟨fun _ => hp, fun _ => rfl⟩ M5 (by rw [if_neg (by decide)]; exact e5)⟩⟩) (fun hp => ⟨rfl, fun _ => ⟨z_o119, fun M4 e4 => num 0 (Or.inl rfl) ⟨fun y => absurd y (by decide), fun y => absurd y hp⟩ M4 (by rw [if_pos rfl]; exact e4)⟩, fun y => absurd rfl y⟩)
      have i0 : vp_in (0 : Int32) (zlong (2 + r)) := by rw [z_r8 hr]; exact vp_in_nI (n := 0) (by decide) (by decide)
      exact ⟨i0, fun c => ⟨i0, hJ _ ((z_abs (x := M (2 + r) 0) (by omega)).1 c)⟩, fun c => ⟨i0, hJ _ ((z_abs (x := M (2 + r) 0) (by omega)).2 c)⟩⟩
  · have hq : Q 1 M N := by
      refine hQ _ _ _ (s_isReg (fun h => absurd h h1) (fun _ => ⟨fun _ N4 e4 => ?_, fun h => absurd rfl h⟩))
      have z4 : N4 99 0 = 1 := by rw [e4, zpui_eq]
      rw [z4]
      exact ⟨fun c => absurd c (by decide), fun _ => ⟨rfl, z_thB z4 (fun c => absurd c (by decide)) (hk _ _ (zreg_keep hI (fun _ _ _ => rfl) (by rw [e4, zpui_ne (by decide)])) (zfct_keep hfc (fun _ _ _ => rfl) rfl (by rw [e4, zpui_ne (by decide)]) (by rw [e4, zpui_ne (by decide)]) (by rw [e4, zpui_ne (by decide)]) (by rw [e4, zpui_n2 (by decide)]) (by rw [e4, zpui_n2 (by decide)])) (zgr_keep hgr (by rw [e4, zpui_ne (by decide)])))⟩⟩
    exact s_reg (fun h => absurd h h1) (fun _ => ⟨fun _ => hq, rfl⟩)
