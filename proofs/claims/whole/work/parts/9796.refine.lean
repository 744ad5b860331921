/-! refine of the reference. -/
theorem cg_dvd {p m : Int} (hmp : p ∣ m) {a b : Pl} (h : cg m a b) : cg p a b := by
  obtain ⟨m', e⟩ := hmp
  rw [e] at h
  exact cg_up h
theorem hens_id {o g h e u v y q t p m m' : Int} (h1 : o = g * h + m * e) (h2 : 1 = u * g + v * h + p * y) (h3 : v * e = g * q + t) (hm : m = p * m') : o = (g + m * t) * (h + m * (u * e + q * h)) + m * p * (e * y - m' * (t * (u * e + q * h))) := by
  have ht : t = v * e - g * q := by omega
  have k : g * (u * e + q * h) + t * h = e - p * (e * y) := by
    have e1 : e * 1 = e * (u * g + v * h + p * y) := by rw [← h2]
    rw [ht]
    grind
  have k2 : p * m' * (g * (u * e + q * h) + t * h) = p * m' * (e - p * (e * y)) := by rw [k]
  clear k ht h2 h3
  rw [h1, hm]
  clear h1 hm
  generalize u * e + q * h = s at k2 ⊢
  grind
theorem hens1 {p m : Int} (hmp : p ∣ m) {G H O : Pl} {d : Nat} (hG : mon G d) (h : cg m O (plM G H)) (hc : cop p G H) : ∃ t, dl d t ∧ dvp (m * p) (plA G (plK m t)) O := by
  obtain ⟨E, hE⟩ := h
  obtain ⟨u, v, y, hy⟩ := hc
  obtain ⟨q, t, ht, hq⟩ := ediv_1 hG.1 hG.2 (plM v E)
  obtain ⟨m', hm'⟩ := hmp
  refine ⟨t, ht, plA H (plK m (plA (plM u E) (plM q H))), plS (plM E y) (plK m' (plM t (plA (plM u E) (plM q H)))), fun x => ?_⟩
  have h1 := hE x
  have h2 := hy x
  have h3 := hq x
  simp only [ev_A, ev_M, ev_K, ev_S, ev_X, Int.pow_zero, Int.mul_one] at h1 h2 h3 ⊢
  exact hens_id h1 h2 h3 hm'
theorem fine_ex {p m d : Nat} (hp : 1 < p) (hpr : prm (p : Int)) (hmp : (p : Int) ∣ (m : Int)) {G O : Pl} (hG : mon G d) (h : dvp (m : Int) G O) (hsq : sqf (p : Int) O) : ∃ e, e < p ^ d ∧ dvp ((m * p : Nat) : Int) (plA G (plK m (plS (tpl p d e) (plX 1 d)))) O := by
  obtain ⟨H, hH⟩ := h
  have hc : cop (p : Int) G H := sqf_cop hpr hsq (dvp_cg dvp_refl (cg_dvd hmp hH))
  obtain ⟨t, t1, t2⟩ := hens1 hmp hG hH hc
  have hm : mon (plA (plX 1 d) t) d := by
    refine ⟨fun i hi => ?_, ?_⟩
    · show (if i = d then (1 : Int) else 0) + t.1 i = 0
      rw [if_neg (by omega), t1 i (by omega)]; rfl
    · show (if d = d then (1 : Int) else 0) + t.1 d = 1
      rw [if_pos rfl, t1 d (Nat.le_refl _)]; rfl
  obtain ⟨e, e1, e2⟩ := tpl_all (show 0 < p by omega) hm
  refine ⟨e, e1, dvp_cgl (a := plA G (plK m t)) ?_ ?_⟩
  · rw [Int.natCast_mul]; exact t2
  · rw [Int.natCast_mul]
    obtain ⟨r, hr⟩ := e2
    refine ⟨r, fun x => ?_⟩
    have := hr x
    simp only [ev_A, ev_K, ev_S] at this ⊢
    rw [this]
    grind
theorem fin_row {p m d e : Nat} {f g : Nat → Int64} (hd : d < 16) (hp : 1 < p) (m0 : 0 < m) (hG : mon (prP 16 f) d) (hr : zrw m 16 f) (h : ∀ i, i < 16 → (g i).toInt = if i < d then (f i).toInt + m * (tdig p d e i : Int) else (tdig p d e i : Int)) : prP 16 g = plA (prP 16 f) (plK m (plS (tpl p d e) (plX 1 d))) ∧ zrw (m * p) 16 g := by
  have hl : ∀ i, i < d → tdig p d e i < p := fun i hi => by
    unfold tdig
    rw [if_pos hi]
    exact dig_lt (by omega)
  have hmp : m * 2 ≤ m * p := Nat.mul_le_mul_left m hp
  refine ⟨pl_ext (fun i => ?_), fun i hi => ?_⟩
  · show pr 16 g i = pr 16 f i + (m : Int) * ((tdig p d e i : Int) - (if i = d then (1 : Int) else 0))
    rcases Nat.lt_or_ge i 16 with c | c
    · rw [pr_lt c, h i c]
      by_cases c1 : i < d
      · rw [if_pos c1, if_neg (by omega), pr_lt c, Int.sub_zero]
      · rw [if_neg c1]
        by_cases c2 : i = d
        · subst c2
          have e1 : pr 16 f i = 1 := hG.2
          have e2 : tdig p i e i = 1 := by unfold tdig; rw [if_neg c1, if_pos rfl]
          rw [e1, e2, if_pos rfl]
          show (1 : Int) = 1 + (m : Int) * (1 - 1)
          omega
        · have e1 : pr 16 f i = 0 := hG.1 i (by omega)
          have e2 : tdig p d e i = 0 := by unfold tdig; rw [if_neg c1, if_neg c2]
          rw [e1, e2, if_neg c2]
          show (0 : Int) = 0 + (m : Int) * (0 - 0)
          omega
    · have e2 : tdig p d e i = 0 := by unfold tdig; rw [if_neg (by omega), if_neg (by omega)]
      rw [pr_ge c, pr_ge c, e2, if_neg (by omega)]
      show (0 : Int) = 0 + (m : Int) * (0 - 0)
      omega
  · rw [h i hi]
    by_cases c1 : i < d
    · rw [if_pos c1]
      have h1 := hr i hi
      have h2 : m * (tdig p d e i + 1) ≤ m * p := Nat.mul_le_mul_left m (hl i c1)
      rw [Nat.mul_add, Nat.mul_one] at h2
      have h3 : (m : Int) * (tdig p d e i : Int) = ((m * tdig p d e i : Nat) : Int) := (Int.natCast_mul _ _).symm
      rw [h3]
      omega
    · rw [if_neg c1]
      have : tdig p d e i ≤ 1 := by
        unfold tdig
        rw [if_neg c1]
        split <;> omega
      omega
theorem s_ref39 {K : zM → Prop} {k14 : Int32 → Int64 → zM → Prop} {v8 : Int64} {d n m p e : Nat} {M : zM} {O : Pl} (hp : 1 < p) (p2 : p < 200) (m0 : 0 < m) (m1 : m < 1700000) (hd : d < 8) (hn : n < 8) (hO : prP (n + 1) (M 105) = O) (hOb : ∀ i, i < 16 → (M 105 i).toInt.natAbs ≤ 100000000) (hG : mon (prP 16 (M 116)) d) (hr : zrw m 16 (M 116)) (h4 : ∀ i, i < 16 → M 114 i = lN (tdig p d e i))
    (yes : ∀ M' : zM, (∀ a, a ≠ 109 → a ≠ 110 → a ≠ 115 → M' a = M a) → prP 16 (M' 115) = plA (prP 16 (M 116)) (plK m (plS (tpl p d e) (plX 1 d))) → zrw (m * p) 16 (M' 115) → dvp ((m * p : Nat) : Int) (prP 16 (M' 115)) O → k14 1 (lN (e + 1)) M')
    (no : ∀ M' : zM, (∀ a, a ≠ 109 → a ≠ 110 → a ≠ 115 → M' a = M a) → ¬ dvp ((m * p : Nat) : Int) (plA (prP 16 (M 116)) (plK m (plS (tpl p d e) (plX 1 d)))) O → k14 0 (lN (e + 1)) M') : ∃ f, L_Mo_refine_39 K k14 (nI d) (nI n) (lN m) (lN p) v8 (lN e) f (0 : Int32) M := by
  have hl : ∀ i, i < d → tdig p d e i < p := fun i hi => by
    unfold tdig
    rw [if_pos hi]
    exact dig_lt (by omega)
  have hl1 : ∀ i, ¬ i < d → tdig p d e i ≤ 1 := fun i hi => by
    unfold tdig
    rw [if_neg hi]
    split <;> omega
  have hmp : m * p ≤ 1700000 * 200 := Nat.mul_le_mul (by omega) (by omega)
  have hmp2 : m * 2 ≤ m * p := Nat.mul_le_mul_left m hp
  have key : ∀ u j (M1 : zM), j + u = 16 → (∀ a, a ≠ 115 → M1 a = M a) → (∀ i, i < j → (M1 115 i).toInt = if i < d then (M 116 i).toInt + m * (tdig p d e i : Int) else (tdig p d e i : Int)) → L_Mo_refine_39 K k14 (nI d) (nI n) (lN m) (lN p) v8 (lN e) (u + 1) (nI j) M1 := by
    intro u
    induction u with
    | zero =>
      intro j M1 hj g1 g2
      have : j = 16 := by omega
      subst this
      refine ⟨fun _ => ?_, fun c => absurd (Int32.le_refl _) c⟩
      obtain ⟨r1, r2⟩ := fin_row (f := M 116) (g := M1 115) (by omega) hp m0 hG hr g2
      have hm : mon (prP 16 (M1 115)) d := by
        rw [r1]
        refine ⟨fun i hi => ?_, ?_⟩
        · have e2 : tdig p d e i = 0 := by unfold tdig; rw [if_neg (by omega), if_neg (by omega)]
          have e1 : (prP 16 (M 116)).1 i = 0 := hG.1 i hi
          show (prP 16 (M 116)).1 i + (m : Int) * ((tdig p d e i : Int) - (if i = d then (1 : Int) else 0)) = 0
          rw [e1, e2, if_neg (by omega)]
          show (0 : Int) + (m : Int) * (0 - 0) = 0
          omega
        · have e2 : tdig p d e d = 1 := by unfold tdig; rw [if_neg (by omega), if_pos rfl]
          have e1 : (prP 16 (M 116)).1 d = 1 := hG.2
          show (prP 16 (M 116)).1 d + (m : Int) * ((tdig p d e d : Int) - (if d = d then (1 : Int) else 0)) = 1
          rw [e1, e2, if_pos rfl]
          show (1 : Int) + (m : Int) * (1 - 1) = 1
          omega
      rw [lN_mulp]
      have e105 : M1 105 = M 105 := g1 105 (by decide)
      refine s_Mo_dividesModulo (P := m * p) (by decide) (by decide) (by decide) (by decide) (by omega) (by omega) (by omega) (by omega) r2 hm (fun i hi => by rw [e105]; have := hOb i (by omega); omega) (fun M11 w1 _ _ w2 x13 e13 => ?_) (fun M11 w1 w2 x13 e13 => ?_)
      · rw [e13, lN_1]
        rw [e105, hO] at w2
        have e115 : M11 115 = M1 115 := w1 115 (by decide) (by decide)
        exact yes M11 (fun a x y z => by rw [w1 a x y]; exact g1 a z) (by rw [e115]; exact r1) (by rw [e115]; exact r2) (by rw [e115]; exact ⟨prP 16 (M11 110), cg_trans w2 (cg_eq (fun x => by rw [ev_M, ev_M, Int.mul_comm]))⟩)
      · rw [e13, lN_1]
        rw [e105, hO, r1] at w2
        exact no M11 (fun a x y z => by rw [w1 a x y]; exact g1 a z) w2
    | succ u ih =>
      intro j M1 hj g1 g2
      have i4 : vp_in (nI j) (zlong 114) := vp_in_nI (N := 16) (by omega) (by decide)
      have i5 : vp_in (nI j) (zlong 115) := vp_in_nI (N := 16) (by omega) (by decide)
      have i6 : vp_in (nI j) (zlong 116) := vp_in_nI (N := 16) (by omega) (by decide)
      have nx : ∀ y : Int64, y.toInt = (if j < d then (M 116 j).toInt + m * (tdig p d e j : Int) else (tdig p d e j : Int)) → L_Mo_refine_39 K k14 (nI d) (nI n) (lN m) (lN p) v8 (lN e) (u + 1) (nI (j + 1)) (zput M1 115 j y) := fun y hy => by
        refine ih (j + 1) _ (by omega) (fun a x => by rw [zput_ne x]; exact g1 a x) (fun i hi => ?_)
        by_cases c : i = j
        · subst c; rw [zput_eq]; exact hy
        · rw [zput_n2 c]; exact g2 i (by omega)
      refine ⟨fun c => absurd c (nI_ge (b := 16) (by omega) (by omega)), fun _ => ⟨fun c => ⟨i4, i5, fun M14 e14 => ?_⟩, fun c => ⟨i6, i4, i5, fun M15 e15 => ?_⟩⟩⟩
      · have hjd : d ≤ j := (nI_leI (by omega) (by omega)).mp c
        rw [nI_clamp (by omega)] at e14
        rw [e14, nI_1]
        refine nx _ ?_
        rw [if_neg (by omega), g1 114 (by decide), h4 j (by omega)]
        exact pk_lT (by have := hl1 j (by omega); omega)
      · have hjd : j < d := Nat.not_le.mp (fun x => c ((nI_leI (by omega) (by omega)).mpr x))
        rw [nI_clamp (by omega)] at e15
        rw [e15, nI_1]
        refine nx _ ?_
        rw [if_pos hjd, g1 114 (by decide), g1 116 (by decide), h4 j (by omega), lN_mulp]
        have h2 : m * (tdig p d e j + 1) ≤ m * p := Nat.mul_le_mul_left m (hl j hjd)
        rw [Nat.mul_add, Nat.mul_one] at h2
        have h3 : (lN (m * tdig p d e j)).toInt = ((m * tdig p d e j : Nat) : Int) := pk_lT (by omega)
        have h4 := hr j (by omega)
        rw [zx_add (by rw [h3]; omega) (by rw [h3]; omega), h3, Int.natCast_mul]
  exact ⟨17, key 16 0 M (by decide) (fun _ _ => rfl) (fun i hi => absurd hi (Nat.not_lt_zero _))⟩
theorem s_refine {K : zM → Prop} {d n m p : Nat} {M : zM} {O : Pl} (hp : 1 < p) (p2 : p < 200) (hpr : prm (p : Int)) (hmp : (p : Int) ∣ (m : Int)) (m0 : 0 < m) (m1 : m < 1700000) (hd : d < 4) (hn : n < 8) (hO : prP (n + 1) (M 105) = O) (hOb : ∀ i, i < 16 → (M 105 i).toInt.natAbs ≤ 100000000) (hsq : sqf (p : Int) O) (hG : mon (prP 16 (M 116)) d) (hr : zrw m 16 (M 116)) (hdv : dvp (m : Int) (prP 16 (M 116)) O)
    (k : ∀ M' : zM, (∀ a, a ≠ 109 → a ≠ 110 → a ≠ 114 → a ≠ 115 → a ≠ 116 → M' a = M a) → mon (prP 16 (M' 116)) d → zrw (m * p) 16 (M' 116) → dvp ((m * p : Nat) : Int) (prP 16 (M' 116)) O → cg (m : Int) (prP 16 (M' 116)) (prP 16 (M 116)) → K M') : w_Mo_refine (nI d) (nI n) (lN m) (lN p) M K := by
  obtain ⟨e0, e01, e02⟩ := fine_ex hp hpr hmp hG hdv hsq
  have hpd : p ^ d ≤ 200 ^ 3 := Nat.le_trans (Nat.pow_le_pow_left (by omega) d) (Nat.pow_le_pow_right (by decide) (by omega))
  have h200 : (200 : Nat) ^ 3 = 8000000 := by decide
  refine s_Mo_power (by omega) ?_
  -- the found row
  have fin : ∀ (e : Nat) (M1 : zM), (∀ a, a ≠ 109 → a ≠ 110 → a ≠ 114 → a ≠ 115 → M1 a = M a) → prP 16 (M1 115) = plA (prP 16 (M 116)) (plK m (plS (tpl p d e) (plX 1 d))) → zrw (m * p) 16 (M1 115) → dvp ((m * p : Nat) : Int) (prP 16 (M1 115)) O → J_Mo_refine_121 K M1 := by
    intro e M1 g1 g2 g3 g4
    refine s_Mo_copy (by decide) (by decide) (by decide) (fun M8 w1 w2 => ?_)
    have e16 : prP 16 (M8 116) = prP 16 (M1 115) := prP_congr w2
    refine k M8 (fun a x y z t u => by rw [w1 a u]; exact g1 a x y z t) ?_ (fun i hi => by rw [w2 i hi]; exact g3 i hi) (by rw [e16]; exact g4) ?_
    · rw [e16, g2]
      refine ⟨fun i hi => ?_, ?_⟩
      · have e2 : tdig p d e i = 0 := by unfold tdig; rw [if_neg (by omega), if_neg (by omega)]
        have e1 : (prP 16 (M 116)).1 i = 0 := hG.1 i hi
        show (prP 16 (M 116)).1 i + (m : Int) * ((tdig p d e i : Int) - (if i = d then (1 : Int) else 0)) = 0
        rw [e1, e2, if_neg (by omega)]
        show (0 : Int) + (m : Int) * (0 - 0) = 0
        omega
      · have e2 : tdig p d e d = 1 := by unfold tdig; rw [if_neg (by omega), if_pos rfl]
        have e1 : (prP 16 (M 116)).1 d = 1 := hG.2
        show (prP 16 (M 116)).1 d + (m : Int) * ((tdig p d e d : Int) - (if d = d then (1 : Int) else 0)) = 1
        rw [e1, e2, if_pos rfl]
        show (1 : Int) + (m : Int) * (1 - 1) = 1
        omega
    · rw [e16, g2]
      exact ⟨plS (tpl p d e) (plX 1 d), fun x => by rw [ev_A, ev_K]⟩
  have key : ∀ u e (M1 : zM), e + u = p ^ d → (∀ a, a ≠ 109 → a ≠ 110 → a ≠ 114 → a ≠ 115 → M1 a = M a) → (∀ t, t < e → ¬ dvp ((m * p : Nat) : Int) (plA (prP 16 (M 116)) (plK m (plS (tpl p d t) (plX 1 d)))) O) → L_Mo_refine_14 K (nI d) (nI n) (lN m) (lN p) (lN (p ^ d)) (u + 1) 0 (lN e) M1 := by
    intro u
    induction u with
    | zero =>
      intro e M1 he g1 g2
      exact absurd e02 (g2 e0 (by omega))
    | succ u ih =>
      intro e M1 he g1 g2
      refine ⟨fun c => ?_, fun _ => ⟨fun c => absurd rfl c, fun _ => s_Mo_lay (by omega) (by omega) (by omega) (by omega) (fun M5 f1 f2 => ?_)⟩⟩
      · have := (pk_lLE (a := p ^ d) (b := e) (by omega) (by omega)).mp c
        omega
      · have e116 : M5 116 = M 116 := by rw [f1 116 (by decide)]; exact g1 116 (by decide) (by decide) (by decide) (by decide)
        have e105 : M5 105 = M 105 := by rw [f1 105 (by decide)]; exact g1 105 (by decide) (by decide) (by decide) (by decide)
        have fr : ∀ a, a ≠ 109 → a ≠ 110 → a ≠ 114 → a ≠ 115 → M5 a = M a := fun a x y z t => by rw [f1 a z]; exact g1 a x y z t
        refine s_ref39 (O := O) hp p2 m0 m1 (by omega) hn (by rw [e105]; exact hO) (by rw [e105]; exact hOb) (by rw [e116]; exact hG) (by rw [e116]; exact hr) f2 (fun M6 w1 w2 w3 w4 => ?_) (fun M6 w1 w2 => ?_)
        · rw [e116] at w2
          have := fin e M6 (fun a x y z t => by rw [w1 a x y t]; exact fr a x y z t) w2 w3 w4
          exact ⟨fun _ => this, fun _ => ⟨fun _ => this, fun c => absurd c (by decide)⟩⟩
        · rw [e116] at w2
          refine ih (e + 1) M6 (by omega) (fun a x y z t => by rw [w1 a x y t]; exact fr a x y z t) (fun t ht => ?_)
          by_cases c : t = e
          · rw [c]; exact w2
          · exact g2 t (by omega)
  exact ⟨p ^ d + 1, key (p ^ d) 0 M (by omega) (fun _ _ _ _ _ => rfl) (fun t ht => absurd ht (Nat.not_lt_zero _))⟩
