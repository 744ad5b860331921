/-! What both sides hold of the last taking apart; the calls that read it. -/
def zfct (M : zM) (N : zN) : Prop := ∃ c, c ≤ 7 ∧ N 79 2 = nI c ∧ N 99 3 = nI c ∧ (M 79 3).toInt32 = N 99 2 ∧ ∀ k, k < c → N 88 k = N 101 k ∧ (∀ i, i < 8 → M (81 + k) i = M 102 (8 * k + i)) ∧ zdg (M (81 + k)) 8 ≠ 0
theorem zfct_kp {M M' : zM} {N N' : zN} (h : zfct M N) (hk : zkp M N M' N') : zfct M' N' := by
  obtain ⟨c, hc, h1, h2, h3, h4⟩ := h
  obtain ⟨k1, k2, k3⟩ := hk
  refine ⟨c, hc, by rw [k2 79 (by decide) (by decide)]; exact h1, by rw [k3 3 (by decide)]; exact h2, by rw [k1 79 (by decide) (by decide), k3 2 (by decide)]; exact h3, fun k hk => ?_⟩
  rw [k2 88 (by decide) (by decide), k2 101 (by decide) (by decide), k1 (81 + k) (by omega) (by omega), k1 102 (by decide) (by decide)]
  exact h4 k hk
theorem s_fac {a : Int32} {N : zN} {P : Prop} {X : Nat → Prop} {c : Nat} (hc : c ≤ 7) (hN : N 79 2 = nI c) (hP : zR a c → P) (hX : ¬ zR a c → X 5) : w_IS_requireFactor a N P X := by
  unfold w_IS_requireFactor
  rw [hN]
  by_cases h : zR a c
  · obtain ⟨j, hj, e⟩ := id h
    subst e
    exact ⟨fun h => absurd h (nI_pos (by omega)), fun _ => ⟨fun _ => hP h, fun g => absurd (nI_lt hj (by omega)) g⟩⟩
  · rcases zR_no (by omega) h with g | g
    · exact ⟨fun _ => hX h, fun g' => absurd g g'⟩
    · exact ⟨fun _ => hX h, fun _ => ⟨fun g' => absurd g' (Int32.not_lt.mpr g), fun _ => hX h⟩⟩
theorem s_noFac {a : Int32} {N : zN} {P : Int32 → Prop} {c : Nat} (hc : c ≤ 7) (hN : N 99 3 = nI c) (hP : zR a c → P 0) (hX : ¬ zR a c → P 1) : w_Mo_noFactor a N P := by
  unfold w_Mo_noFactor
  rw [hN]
  by_cases h : zR a c
  · obtain ⟨j, hj, e⟩ := id h
    subst e
    exact ⟨fun h => absurd h (nI_pos (by omega)), fun _ => ⟨fun _ => ⟨rfl, hP h⟩, fun g => absurd (nI_lt hj (by omega)) g⟩⟩
  · rcases zR_no (by omega) h with g | g
    · exact ⟨fun _ => ⟨rfl, hX h⟩, fun g' => absurd g g'⟩
    · exact ⟨fun _ => ⟨rfl, hX h⟩, fun _ => ⟨fun g' => absurd g' (Int32.not_lt.mpr g), fun _ => ⟨rfl, hX h⟩⟩⟩
theorem u_unit {M : zM} {N : zN} {K : zM → zN → Prop} (hI : zreg M N) (hF : zfct M N) (hk : ∀ M' N', zreg M' N' → zkp M N M' N' → K M' N') : w_IS_unit M (fun r => w_Mo_unit N (fun r' N' => (r = r' → K M N') ∧ (¬ r = r' → False))) := by
  obtain ⟨c, hc, h1, h2, h3, h4⟩ := hF
  intro N1 e
  subst e
  exact ⟨fun _ => hk _ _ (z_reg0 hI 0) (z_kp0 0), fun h => h (by rw [zpui_n2 (by decide)]; exact h3)⟩
theorem z_i7 {k : Nat} (h : k < 7) : vp_in (nI k) (zint 101) ∧ vp_in (nI k) (zint (79 + 9)) ∧ vp_in (nI k) (zgn (79 + 1)) :=
  ⟨vp_in_nI (N := 7) h (by decide), vp_in_nI (N := 7) h (by decide), vp_in_nI (N := 7) h (by decide)⟩
theorem u_multiplicity {a1 : Int32} {M : zM} {N : zN} {K : zM → zN → Prop} {Q : Int32 → zM → Prop} (hI : zreg M N) (hF : zfct M N) (hk : ∀ M' N', zreg M' N' → zkp M N M' N' → K M' N') (hQ : ∀ q M1, w_Mo_multiplicity a1 N (fun r4 N6 => zth K q r4 M1 N6) → Q q M1) : w_La_multiplicity a1 M N Q := by
  obtain ⟨c, hc, h1, h2, h3, h4⟩ := hF
  refine s_fac hc h1 (fun h => ?_) (fun h => ⟨fun _ => hQ _ _ ?_, rfl⟩)
  · obtain ⟨k, hk', rfl⟩ := h
    refine ⟨(z_i7 (by omega)).2.1, ?_⟩
    rw [nI_clamp (by omega)]
    refine ⟨z_o119, fun M1 e1 => hQ _ _ (s_noFac hc h2 (fun _ => ⟨fun _ N4 e => ?_, fun h => absurd rfl h⟩) (fun h => absurd ⟨k, hk', rfl⟩ h))⟩
    have e1 : M1 = zput M 119 0 (N 88 k).toInt64 := e1
    subst e e1
    rw [zpui_eq]
    refine ⟨fun _ => ⟨(z_i7 (by omega)).1, ?_⟩, fun h => absurd (by decide) h⟩
    rw [nI_clamp (by omega), zpui_ne (by decide)]
    exact z_th zpui_eq (fun _ => by rw [zput_eq, (h4 k hk').1]) (hk _ _ (z_reg119 (z_reg0 hI 0) _ _) (z_kp119 (z_kp0 0) _ _))
  · refine s_noFac hc h2 (fun g => absurd g h) (fun _ => ⟨fun g => absurd g (by decide), fun _ N4 e => ?_⟩)
    subst e
    rw [zpui_eq]
    exact ⟨fun g => absurd g (by decide), fun _ => z_th zpui_eq (fun h => absurd h (by decide)) (hk _ _ (z_reg0 hI 1) (z_kp0 1))⟩
theorem z_ix7 {k i : Nat} : (8 : Int32) * nI k + nI i = nI (8 * k + i) := by
  rw [show (8 : Int32) = nI 8 from rfl, pk_mul, nI_add]
theorem z_81 {k : Nat} (h : k < 7) : zlong (79 + 1 + 1 + k) = 8 := by
  have : k = 0 ∨ k = 1 ∨ k = 2 ∨ k = 3 ∨ k = 4 ∨ k = 5 ∨ k = 6 := by omega
  rcases this with rfl | rfl | rfl | rfl | rfl | rfl | rfl <;> decide
theorem u_factorAt {a1 a2 : Int32} {M : zM} {N : zN} {K : zM → zN → Prop} {Q : Int32 → zM → Prop} (hI : zreg M N) (hF : zfct M N) (hk : ∀ M' N', zreg M' N' → zkp M N M' N' → K M' N') (hQ : ∀ q M1, w_Mo_factorAt a1 a2 M1 N (fun r4 N6 => zth K q r4 M1 N6) → Q q M1) : w_La_factorAt a1 a2 M N Q := by
  obtain ⟨c, hc, h1, h2, h3, h4⟩ := hF
  refine s_fac hc h1 (fun h => ?_) (fun h => ⟨fun _ => hQ _ _ ?_, rfl⟩)
  · obtain ⟨k, hk', rfl⟩ := h
    obtain ⟨-, hrow, hdeg⟩ := h4 k hk'
    have hI0 : ∀ x, K (zput M 119 0 x) (zpui N 99 0 0) := fun x => hk _ _ (z_reg119 (z_reg0 hI 0) _ _) (z_kp119 (z_kp0 0) _ _)
    -- the reference's search for the highest place
    have loop : ∀ (M1 : zM) (P : Int32 → zN → Prop) (N4 : zN), M1 102 = M 102 → (0 ≤ a2 → ∀ i, a2 = nI i → i < 8 → P (M 102 (8 * k + i)).toInt32 N4) → (¬ 0 ≤ a2 → P (nI (zdg (M (81 + k)) 8) + (-1)) N4) → (0 ≤ a2 → ∃ i, i < 8 ∧ a2 = nI i) → ∃ n, L_Mo_factorAt_40 P (nI k) a2 M1 N4 n (7 : Int32) := by
      intro M1 P N4 hM1 g1 g2 g3
      have key : ∀ j, j < 8 → zdg (M (81 + k)) 8 = zdg (M (81 + k)) (j + 1) → ∃ n, L_Mo_factorAt_40 P (nI k) a2 M1 N4 n (nI j) := by
        intro j
        induction j with
        | zero =>
          intro _ hd
          have hne : ¬ M (81 + k) 0 = 0 := fun e => hdeg (by rw [hd]; show (if M (81 + k) 0 = 0 then 0 else 1) = 0; rw [if_pos e])
          refine ⟨1, ?_⟩
          refine ⟨by rw [z_ix7]; exact vp_in_nI (by show 8 * k + 0 < 56; omega) (by decide), fun _ => ⟨fun g => ?_, fun g => ?_⟩, fun h => ?_⟩
          · obtain ⟨i, hi, rfl⟩ := g3 g
            rw [z_ix7, nI_clamp (by omega), hM1]
            exact ⟨vp_in_nI (by show 8 * k + i < 56; omega) (by decide), g1 g i rfl hi⟩
          · have := g2 g
            rw [hd, show zdg (M (81 + k)) (0 + 1) = 1 by show (if M (81 + k) 0 = 0 then 0 else 1) = 1; rw [if_neg hne], pk_m1] at this
            exact this
          · rw [z_ix7, nI_clamp (by omega), hM1, ← hrow 0 (by decide)] at h
            exact absurd h hne
        | succ j ih =>
          intro hj hd
          by_cases e0 : M (81 + k) (j + 1) = 0
          · obtain ⟨n, hn⟩ := ih (by omega) (by rw [hd]; show (if M (81 + k) (j + 1) = 0 then zdg (M (81 + k)) (j + 1) else j + 1 + 1) = _; rw [if_pos e0])
            refine ⟨n + 1, ⟨by rw [z_ix7]; exact vp_in_nI (by show 8 * k + (j + 1) < 56; omega) (by decide), fun h => absurd ?_ h, fun _ => ?_⟩⟩
            · rw [z_ix7, nI_clamp (by omega), hM1, ← hrow (j + 1) hj]; exact e0
            · rw [pk_m1]; exact hn
          · refine ⟨1, ⟨by rw [z_ix7]; exact vp_in_nI (by show 8 * k + (j + 1) < 56; omega) (by decide), fun _ => ⟨fun g => ?_, fun g => ?_⟩, fun h => ?_⟩⟩
            · obtain ⟨i, hi, rfl⟩ := g3 g
              rw [z_ix7, nI_clamp (by omega), hM1]
              exact ⟨vp_in_nI (by show 8 * k + i < 56; omega) (by decide), g1 g i rfl hi⟩
            · have := g2 g
              rw [hd, show zdg (M (81 + k)) (j + 1 + 1) = j + 1 + 1 by show (if M (81 + k) (j + 1) = 0 then zdg (M (81 + k)) (j + 1) else j + 1 + 1) = _; rw [if_neg e0], pk_m1] at this
              exact this
            · rw [z_ix7, nI_clamp (by omega), hM1, ← hrow (j + 1) hj] at h
              exact absurd h e0
      exact key 7 (by decide) rfl
    have model : ∀ M1 : zM, M1 102 = M 102 → (P : Int32 → zN → Prop) → (a2 < -1 ∨ ¬ a2 ≤ 7 → P 0 (zpui N 99 0 0)) → (∀ i, a2 = nI i → i < 8 → P (M 102 (8 * k + i)).toInt32 (zpui N 99 0 0)) → (a2 = -1 → P (nI (zdg (M (81 + k)) 8) + (-1)) (zpui N 99 0 0)) → w_Mo_factorAt (nI k) a2 M1 N P := by
      intro M1 hM1 P p1 p2 p3
      refine s_noFac hc h2 (fun _ => ⟨fun _ N4 e => ?_, fun h => absurd rfl h⟩) (fun h => absurd ⟨k, hk', rfl⟩ h)
      subst e
      rw [zpui_eq]
      refine ⟨fun h => absurd h (by decide), fun _ => ⟨fun g => p1 (Or.inl g), fun g => ⟨fun g2 => ?_, fun g2 => p1 (Or.inr g2)⟩⟩⟩
      have hz : 0 ≤ a2 → ∃ i, i < 8 ∧ a2 = nI i := fun h => by
        obtain ⟨i, hi, e⟩ := nI_of2 (M := 7) (n := 7) (by decide) (Int32.not_lt.mpr h) g2
        exact ⟨i, by omega, e⟩
      refine loop M1 P _ hM1 (fun _ i e hi => p2 i e hi) (fun h => p3 ?_) hz
      rw [Int32.lt_iff_toInt_lt] at g
      rw [Int32.le_iff_toInt_le] at h
      rw [← Int32.toInt_inj]
      have e1 : (-1 : Int32).toInt = -1 := by decide
      have e0 : (0 : Int32).toInt = 0 := by decide
      omega
    have e1 : (-1 : Int32).toInt = -1 := by decide
    have e0 : (0 : Int32).toInt = 0 := by decide
    have e8 : (8 : Int32).toInt = 8 := by decide
    have e7 : (7 : Int32).toInt = 7 := by decide
    have out : ∀ M1, M1 = zput M 119 0 (0 : Int32).toInt64 → (∀ i, a2 = nI i → i < 8 → False) → ¬ a2 = -1 → Q 0 M1 := by
      intro M1 eM g1 g2
      subst eM
      exact hQ _ _ (model _ (zput_ne (by decide)) _ (fun _ => z_th zpui_eq (fun _ => zput_eq) (hI0 _)) (fun i e hi => (g1 i e hi).elim) (fun e => absurd e g2))
    refine ⟨fun n1 => ⟨fun g => ⟨z_o119, fun M1 eM => out M1 eM (fun i e hi => ?_) n1⟩, fun g => ⟨fun g2 => ⟨(z_i7 (by omega)).2.2, ?_⟩, fun g2 => ⟨z_o119, fun M1 eM => out M1 eM (fun i e hi => ?_) n1⟩⟩⟩, fun n1 => ⟨(z_i7 (by omega)).2.2, ?_⟩⟩
    · rw [e] at g; exact nI_pos (by omega) g
    · obtain ⟨i, hi, e⟩ := nI_of2 (M := 7) (n := 7) (x := a2) (by decide) g (by
        rw [Int32.lt_iff_toInt_lt] at g2
        rw [Int32.le_iff_toInt_le]
        omega)
      subst e
      rw [nI_clamp (by omega), nI_clamp (by omega)]
      refine ⟨by rw [z_81 (by omega)]; exact vp_in_nI (by omega) (by decide), z_o119, fun M1 eM => hQ _ _ ?_⟩
      have eM : M1 = zput M 119 0 (M (81 + k) i).toInt32.toInt64 := eM
      subst eM
      refine model _ (zput_ne (by decide)) _ (fun h => ?_) (fun i' e' hi' => ?_) (fun h => absurd h n1)
      · exfalso
        rcases h with h | h
        · rw [Int32.lt_iff_toInt_lt, nI_toInt (by omega)] at h
          omega
        · exact h (nI_le (b := 7) (by omega) (by decide) : nI i ≤ nI 7)
      · have : i = i' := (nI_eq (by omega) (by omega)).mp e'
        subst this
        exact z_th zpui_eq (fun _ => by rw [zput_eq, hrow i (by omega)]) (hI0 _)
    · rw [e] at g2; exact g2 (nI_lt (b := 8) hi (by decide) : nI i < nI 8)
    · rw [nI_clamp (by omega)]
      refine s_Ro_degreeOf (z_81 (by omega)) (by decide) (by decide) ⟨z_o119, fun M1 eM => hQ _ _ ?_⟩
      have eM : M1 = zput M 119 0 (nI (zdg (M (81 + k)) 8) + (-1)).toInt64 := eM
      subst eM n1
      refine model _ (zput_ne (by decide)) _ (fun h => by rcases h with h | h <;> exact absurd h (by decide)) (fun i e hi => ?_) (fun _ => z_th zpui_eq (fun _ => zput_eq) (hI0 _))
      exfalso
      have h9 : ¬ nI i < 0 := nI_pos (by omega)
      rw [← e] at h9
      exact h9 (by decide)
  · refine s_noFac hc h2 (fun g => absurd g h) (fun _ => ⟨fun g => absurd g (by decide), fun _ N4 e => ?_⟩)
    subst e
    rw [zpui_eq]
    exact ⟨fun _ => z_th zpui_eq (fun h => absurd h (by decide)) (hk _ _ (z_reg0 hI 1) (z_kp0 1)), fun g => absurd (by decide) g⟩
