/-! The law's step for factor. -/
theorem zfct_keep {M M' : zM} {N N' : zN} (h : zfct M N) (h1 : ∀ a, 79 ≤ a → a ≤ 88 → M' a = M a) (h2 : M' 102 = M 102) (n1 : N' 79 = N 79) (n2 : N' 88 = N 88) (n3 : N' 101 = N 101) (n4 : N' 99 2 = N 99 2) (n5 : N' 99 3 = N 99 3) : zfct M' N' := by
  obtain ⟨c, c7, a1, a2, a3, a4⟩ := h
  refine ⟨c, c7, by rw [n1]; exact a1, by rw [n5]; exact a2, by rw [h1 79 (by decide) (by decide), n4]; exact a3, fun k hk => ?_⟩
  rw [n2, n3, h1 (81 + k) (by omega) (by omega), h2]
  exact a4 k hk
theorem zreg_keep {M M' : zM} {N N' : zN} (h : zreg M N) (h1 : ∀ a, 2 ≤ a → a ≤ 5 → M' a = M a) (n1 : N' 100 = N 100) : zreg M' N' := fun r i hr hi => by
  rw [h1 (2 + r) (by omega) (by omega), n1]
  exact h r i hr hi
theorem zgr_keep {N N' : zN} (h : zgr N) (n1 : N' 118 = N 118) : zgr N' := fun j hj => by
  rw [n1]
  exact h j hj
theorem fac_row {F : Nat → Int64} {M : zM} {k : Nat} (h : prP 8 F = Nf M k) (i : Nat) (hi : i < 8) : F i = M 103 (8 * k + i) := by
  have e1 : (prP 8 F).1 i = (F i).toInt := pr_lt hi
  rw [h, Nf_v hi] at e1
  exact Int64.toInt_inj.mp e1.symm
theorem u_factor {a1 : Int32} {M : zM} {N : zN} {K : zM → zN → Prop} {Q : Int32 → zM → zN → Prop} (hI : zreg M N) (hfc : zfct M N) (hgr : zgr N) (hk : ∀ M' N', zreg M' N' → zfct M' N' → zgr N' → K M' N') (hQ : ∀ q M1 N1, w_Mo_factor a1 M1 N1 (fun r4 M5 N6 => zth K q r4 M5 N6) → Q q M1 N1) : w_La_factor a1 M N Q := by
  by_cases h1 : zR a1 4
  · obtain ⟨r, hr, rfl⟩ := id h1
    refine s_reg (fun _ => ⟨z_gn hr, ?_⟩) (fun h => absurd h1 h)
    rw [nI_clamp (by omega)]
    refine s_Ro_degreeOf (a0 := 2 + r) (z_r8 hr) (by decide) (by decide) ?_
    rcases Nat.eq_zero_or_pos (zdg (M (2 + r)) 8) with hz | hz
    · rw [hz]
      refine ⟨fun c => absurd c (by decide), fun _ => ⟨fun c => absurd c (by decide), fun _ => hQ _ _ _ ?_, Or.inr rfl⟩⟩
      refine s_isReg (fun _ => ⟨fun h => absurd h (by decide), fun _ N4 e4 => ?_⟩) (fun h => absurd h1 h)
      have z4 : N4 99 0 = 0 := by rw [e4, zpui_eq]
      rw [z4]
      refine ⟨fun _ => s_Mo_load hr (by decide) (fun M6 f1 f2 => s_Mo_degreeOf (by decide) ?_), fun c => absurd (by decide) c⟩
      have hzl : zld N4 r = zld N r := by unfold zld; rw [e4, zpui_ne (by decide)]
      rw [hzl] at f2
      obtain ⟨u6, w6⟩ := zld_row (M' := M6) (c := 106) hI hr f2
      rw [zdg_up (n := 8) (by decide) w6, zdg_congr u6, hz]
      refine ⟨fun c => absurd c (by decide), fun _ N11 e11 => ?_⟩
      have z11 : N11 99 0 = 2 := by rw [e11, zpui_eq]
      rw [z11]
      refine ⟨fun c => absurd c (by decide), fun _ => z_th z11 (fun c => absurd c (by decide)) (hk _ _ (zreg_keep hI (fun a x y => f1 a (by omega)) (by rw [e11, zpui_ne (by decide), e4, zpui_ne (by decide)])) (zfct_keep hfc (fun a x y => f1 a (by omega)) (f1 102 (by decide)) (by rw [e11, zpui_ne (by decide), e4, zpui_ne (by decide)]) (by rw [e11, zpui_ne (by decide), e4, zpui_ne (by decide)]) (by rw [e11, zpui_ne (by decide), e4, zpui_ne (by decide)]) (by rw [e11, zpui_n2 (by decide), e4, zpui_n2 (by decide)]) (by rw [e11, zpui_n2 (by decide), e4, zpui_n2 (by decide)])) (zgr_keep hgr (by rw [e11, zpui_ne (by decide), e4, zpui_ne (by decide)])))⟩
    · obtain ⟨n0, hd⟩ : ∃ n0, zdg (M (2 + r)) 8 = n0 + 1 := ⟨zdg (M (2 + r)) 8 - 1, by omega⟩
      have n08 := zdg_le (M (2 + r)) 8
      rw [hd, pk_m1]
      refine ⟨fun _ => ⟨z_gn hr, ?_⟩, fun c => absurd (nI_pos' (by omega)) c⟩
      refine s_takeApart (a1 := 2 + r) (a2 := 79) (n0 := n0) (Or.inl rfl) (z_r8 hr) (by omega) (fun i hi => z_regab hI hr hi) hd (fun cc W M8 N9 f1 f2 f3 f4 f5 f6 f7 f8 f9 f10 f11 f12 f13 => ⟨z_o119, fun M4 e4 => hQ _ _ _ ?_⟩)
      have e4' : M4 = zput M8 119 0 (N9 79 2).toInt64 := e4
      have m4 : ∀ a, a ≠ 119 → M4 a = M8 a := fun a x => by rw [e4', zput_ne x]
      have m4r : M4 119 0 = (N9 79 2).toInt64 := by rw [e4', zput_eq]
      have n9g : zgr N9 := zgr_keep hgr (f3 118 (by decide) (by decide) (by decide) (by decide))
      have n91 : N9 100 = N 100 := f3 100 (by decide) (by decide) (by decide) (by decide)
      -- both lists
      have go : ∀ (rr : Nat) (M' : zM) (N' : zN), (∀ a, ¬ (102 ≤ a ∧ a ≤ 117) → M' a = M4 a) → (∀ a, a ≠ 99 → a ≠ 101 → N' a = N9 a) → N' 99 0 = 0 → N' 99 2 = cc.toInt32 → N' 99 3 = nI rr → rr ≤ 7 → N9 79 2 = nI rr → (∀ t, t < rr → N' 88 t = N' 101 t ∧ (∀ i, i < 8 → M' (81 + t) i = M' 102 (8 * t + i)) ∧ zdg (M' (81 + t)) 8 ≠ 0) → zth K 0 (nI rr) M' N' := by
        intro rr M' N' g1 g2 g3 g4 g5 g6 g7 g8
        refine z_th g3 (fun _ => by rw [g1 119 (by decide), m4r, g7]) (hk _ _ (zreg_keep hI (fun a x y => ?_) ?_) ⟨rr, g6, ?_, g5, ?_, g8⟩ (zgr_keep n9g (g2 118 (by decide) (by decide))))
        · rw [g1 a (by omega), m4 a (by omega), f1 a (by omega) (by omega) (by omega)]
        · rw [g2 100 (by decide) (by decide)]; exact n91
        · rw [g2 79 (by decide) (by decide)]; exact g7
        · rw [g1 79 (by decide), m4 79 (by decide), f6, g4]
      rcases Nat.eq_zero_or_pos n0 with h0 | h0
      · refine s_Mo_factor (M0 := M) (N0 := N) (W := W) (O := W) (n := 0) (p := 0) hI n91 n9g hr hd f7 f8 f10 f11 (fun x => by omega) (fun rr M' N' g1 g2 g3 g4 g5 g6 g7 g8 g9 => ?_)
        have er := g7 h0
        subst er
        exact go 0 M' N' g1 g2 g3 g4 g5 g6 (f12 h0) (fun t ht => absurd ht (Nat.not_lt_zero _))
      · obtain ⟨hW, O, n, p, rc, ho, rc1, rc7, hrc, hfac⟩ := f13 h0
        refine s_Mo_factor (M0 := M) (N0 := N) (W := W) (O := O) (n := n) (p := p) hI n91 n9g hr hd f7 f8 f10 f11 (fun _ => ⟨hW, ho⟩) (fun rr M' N' g1 g2 g3 g4 g5 g6 g7 g8 g9 => ?_)
        obtain ⟨er, hrow⟩ := fac_uniq hfac (g8 h0)
        subst er
        refine go rc M' N' g1 g2 g3 g4 g5 g6 hrc (fun t ht => ?_)
        obtain ⟨x1, x2⟩ := hrow t ht
        have e81 : M' (81 + t) = M8 (79 + 2 + t) := by rw [g1 (81 + t) (by omega), m4 _ (by omega)]
        refine ⟨?_, fun i hi => ?_, ?_⟩
        · rw [g2 88 (by decide) (by decide)]
          exact x2
        · rw [e81, g9 (8 * t + i) (by omega)]
          exact fac_row x1 i hi
        · obtain ⟨dO, _⟩ := opn_f hW ho
          obtain ⟨d, d8, d1, d2⟩ := Tf_pos hW dO _ _ (hfac.2.1 t ht)
          rw [e81, row_zdg (n := d) d8 (by have : 0 < (prP 8 (M8 (79 + 2 + t))).1 d := d1; omega) d2]
          omega
  · have hq : Q 1 M N := by
      refine hQ _ _ _ (s_isReg (fun h => absurd h h1) (fun _ => ⟨fun _ N4 e4 => ?_, fun h => absurd rfl h⟩))
      have z4 : N4 99 0 = 1 := by rw [e4, zpui_eq]
      rw [z4]
      exact ⟨fun c => absurd c (by decide), fun _ => z_th z4 (fun c => absurd c (by decide)) (hk _ _ (zreg_keep hI (fun _ _ _ => rfl) (by rw [e4, zpui_ne (by decide)])) (zfct_keep hfc (fun _ _ _ => rfl) rfl (by rw [e4, zpui_ne (by decide)]) (by rw [e4, zpui_ne (by decide)]) (by rw [e4, zpui_ne (by decide)]) (by rw [e4, zpui_n2 (by decide)]) (by rw [e4, zpui_n2 (by decide)])) (zgr_keep hgr (by rw [e4, zpui_ne (by decide)])))⟩
    exact s_reg (fun h => absurd h h1) (fun _ => ⟨fun _ => hq, fun c => absurd c (by decide), Or.inl rfl⟩)
