/-! The class's kernel. -/
def zpv (N : zN) (pv : Nat → Nat) : Prop := ∀ j, j < 8 → N 45 j = nI (pv j) + (-1) ∧ pv j ≤ 8
theorem zpv_neg {x : Nat} (h : x ≤ 8) : (nI x + (-1) < 0 ↔ x = 0) ∧ (0 ≤ nI x + (-1) ↔ x ≠ 0) := by
  have : ∀ x, x < 9 → (nI x + (-1) < 0 ↔ x = 0) ∧ (0 ≤ nI x + (-1) ↔ x ≠ 0) := by decide
  exact this x (by omega)
theorem z28 : ∀ i, i < 8 → zlong (27 + 1 + i) = 8 := by decide
theorem z37 : ∀ i, i < 8 → zlong (36 + 1 + i) = 8 := by decide
theorem s_freeColumn {K : Int32 → Prop} {k n : Nat} {M : zM} {N : zN} {pv : Nat → Nat} (hk : k < 8) (hn : n < 8) (hp : zpv N pv) (yes : ∀ j, j < n → M (28 + k) j ≠ 0 → pv j = 0 → K (nI j)) (no : (∀ j, j < n → pv j = 0 → M (28 + k) j = 0) → K (-1)) : w_MP_freeColumn (nI k) (nI n) M N K := by
  have key : ∀ d j, j + d = n → (∀ l, l < j → pv l = 0 → M (28 + k) l = 0) → ∃ f, L_MP_freeColumn_2 K (nI k) (nI n) M N f (nI j) := by
    intro d
    induction d with
    | zero =>
      intro j hj hI
      have : j = n := by omega
      subst this
      exact ⟨1, ⟨fun _ => no hI, fun c => absurd (Int32.le_refl _) c⟩⟩
    | succ d ih =>
      intro j hj hI
      have i1 : vp_in (nI k) (zgn 27) := vp_in_nI (N := 8) hk (by decide)
      have i2 : vp_in (nI j) (zlong (27 + 1 + k)) := by rw [z28 k hk]; exact vp_in_nI (by omega) (by decide)
      have i3 : vp_in (nI j) (zint 45) := vp_in_nI (N := 8) (by omega) (by decide)
      obtain ⟨v1, v2⟩ := hp j (by omega)
      have hge : ¬ nI n ≤ nI j := nI_ge (by omega) (by omega)
      by_cases c1 : M (28 + k) j = 0
      · obtain ⟨f, hf⟩ := ih (j + 1) (by omega) (fun l hl e => by
          by_cases c : l = j
          · rw [c]; exact c1
          · exact hI l (by omega) e)
        refine ⟨f + 1, ⟨fun c => absurd c hge, fun _ => ⟨i1, ?_⟩⟩⟩
        rw [nI_clamp (by omega), nI_clamp (by omega), nI_1]
        exact ⟨i2, fun _ => hf, fun c => absurd (by rw [show 27 + 1 + k = 28 + k by omega]; exact c1) c⟩
      · by_cases c2 : pv j = 0
        · refine ⟨1, ⟨fun c => absurd c hge, fun _ => ⟨i1, ?_⟩⟩⟩
          rw [nI_clamp (by omega), nI_clamp (by omega)]
          refine ⟨i2, fun c => absurd (by rw [show 28 + k = 27 + 1 + k by omega]; exact c) c1, fun _ => ⟨i3, fun c => ?_, fun _ => yes j (by omega) c1 c2⟩⟩
          rw [v1, (zpv_neg v2).2] at c
          exact absurd c2 c
        · obtain ⟨f, hf⟩ := ih (j + 1) (by omega) (fun l hl e => by
            by_cases c : l = j
            · rw [c] at e; exact absurd e c2
            · exact hI l (by omega) e)
          refine ⟨f + 1, ⟨fun c => absurd c hge, fun _ => ⟨i1, ?_⟩⟩⟩
          rw [nI_clamp (by omega), nI_clamp (by omega), nI_1]
          refine ⟨i2, fun _ => hf, fun _ => ⟨i3, fun _ => hf, fun c => absurd ?_ c⟩⟩
          rw [v1, (zpv_neg v2).2]
          exact c2
  exact key n 0 (by omega) (fun l hl => absurd hl (Nat.not_lt_zero _))
theorem s_fillKernelRow {K : zM → Prop} {F k n : Nat} {M : zM} {N : zN} {pv : Nat → Nat} (hF : F < 8) (hk : k < n) (hn : n < 8) (hp : zpv N pv) (inj : ∀ j l, j < n → l < n → pv j = pv l → pv j ≠ 0 → j = l) (hlt : ∀ j, j < n → pv j ≤ k)
    (kk : ∀ M' : zM, (∀ a, a ≠ 37 + F → M' a = M a) → M' (37 + F) k = 1 → (∀ j i, j < n → pv j = i + 1 → M' (37 + F) i = M (28 + k) j) → (∀ i, i < 8 → i ≠ k → (∀ j, j < n → pv j ≠ i + 1) → M' (37 + F) i = 0) → K M') : w_MP_fillKernelRow (nI F) (nI k) (nI n) M N K := by
  have g1 : vp_in (nI F) (zgn 36) := vp_in_nI (N := 8) hF (by decide)
  have g2 : vp_in (nI k) (zgn 27) := vp_in_nI (N := 8) (by omega) (by decide)
  have ek : (36 + 1 + F : Nat) = 37 + F := by omega
  refine ⟨g1, ?_⟩
  rw [nI_clamp (by omega), nI_clamp (by omega)]
  refine s_Ar_fillJ (n := 8) (z37 F hF) (by decide) (by decide) (fun M2 f1 f2 => ⟨g1, by rw [z37 F hF]; exact vp_in_nI (by omega) (by decide), fun M4 e4 => ?_⟩)
  have key : ∀ d j (M1 : zM), j + d = n → (∀ a, a ≠ 37 + F → M1 a = M a) → M1 (37 + F) k = 1 → (∀ l i, l < j → pv l = i + 1 → M1 (37 + F) i = M (28 + k) l) → (∀ i, i < 8 → i ≠ k → (∀ l, l < j → pv l ≠ i + 1) → M1 (37 + F) i = 0) → ∃ f, L_MP_fillKernelRow_22 K (nI F) (nI k) (nI n) N f (nI j) M1 := by
    intro d
    induction d with
    | zero =>
      intro j M1 hj h1 h2 h3 h4
      have : j = n := by omega
      subst this
      exact ⟨1, ⟨fun _ => kk M1 h1 h2 (fun j i a b => h3 j i a b) h4, fun c => absurd (Int32.le_refl _) c⟩⟩
    | succ d ih =>
      intro j M1 hj h1 h2 h3 h4
      obtain ⟨v1, v2⟩ := hp j (by omega)
      have i3 : vp_in (nI j) (zint 45) := vp_in_nI (N := 8) (by omega) (by decide)
      have hge : ¬ nI n ≤ nI j := nI_ge (by omega) (by omega)
      by_cases c2 : pv j = 0
      · obtain ⟨f, hf⟩ := ih (j + 1) M1 (by omega) h1 h2 (fun l i hl e => by
          by_cases c : l = j
          · rw [c] at e; omega
          · exact h3 l i (by omega) e) (fun i hi hik hf => h4 i hi hik (fun l hl => hf l (by omega)))
        refine ⟨f + 1, ⟨fun c => absurd c hge, fun _ => ⟨i3, ?_⟩⟩⟩
        rw [nI_clamp (by omega), nI_1, v1]
        exact ⟨fun _ => hf, fun c => absurd ((zpv_neg v2).1.mpr c2) c⟩
      · obtain ⟨i, hi⟩ : ∃ i, pv j = i + 1 := ⟨pv j - 1, by omega⟩
        have hik : i < k := by have := hlt j (by omega); omega
        have en : N 45 j = nI i := by rw [v1, hi, pk_m1]
        obtain ⟨f, hf⟩ := ih (j + 1) (zput M1 (37 + F) i (M (28 + k) j)) (by omega) (fun a x => by rw [zput_ne x]; exact h1 a x) (by rw [zput_n2 (by omega)]; exact h2) (fun l t hl e => by
          by_cases c : l = j
          · rw [c, hi] at e
            have : t = i := by omega
            rw [this, zput_eq, c]
          · rw [zput_n2 (fun e2 => c (inj l j (by omega) (by omega) (by omega) (by omega)))]
            exact h3 l t (by omega) e) (fun t ht htk hf => by
          rw [zput_n2 (fun e2 => hf j (by omega) (by rw [hi, e2]))]
          exact h4 t ht htk (fun l hl => hf l (by omega)))
        refine ⟨f + 1, ⟨fun c => absurd c hge, fun _ => ⟨i3, ?_⟩⟩⟩
        rw [nI_clamp (by omega), nI_clamp (by omega), nI_clamp (by omega), nI_1, en]
        refine ⟨fun c => absurd c (nI_pos (by omega)), fun _ => ⟨g1, i3, g2, by rw [z28 k (by omega)]; exact vp_in_nI (by omega) (by decide), by rw [z37 F hF]; exact vp_in_nI (by omega) (by decide), fun M5 e5 => ?_⟩⟩
        rw [nI_clamp (by omega)] at e5
        rw [e5, show 27 + 1 + k = 28 + k by omega, show 36 + 1 + F = 37 + F by omega, h1 (28 + k) (by omega)]
        exact hf
  refine key n 0 M4 (by omega) (fun a x => by rw [e4, zput_ne (by omega), f1 a (by omega)]) ?_ (fun l i hl => absurd hl (Nat.not_lt_zero _)) (fun i hi hik _ => ?_)
  · rw [e4, ← ek, zput_eq]
  · rw [e4, ← ek, zput_n2 hik, f2 i hi]
theorem s_clear98 {K : zM → Prop} {k65 : Int32 → zM → Prop} {k c n j P : Nat} {t : Int64} {M : zM} (hkn : k ≤ n) (hn : n < 8) (hc : c < 8) (hj : j < 8) (hjc : j ≠ c) (p0 : 0 < P) (p1 : P < 2 ^ 31) (ht0 : 0 ≤ t.toInt) (ht1 : t.toInt < P) (hr : ∀ i, k ≤ i → i < n → zrw P 8 (M (28 + i)))
    (q : ∀ M' : zM, (∀ a, ¬ (28 + k ≤ a ∧ a < 28 + n) → M' a = M a) → (∀ i l, k ≤ i → i < n → l ≠ j → M' (28 + i) l = M (28 + i) l) → (∀ i, k ≤ i → i < n → (M' (28 + i) j).toInt = ((M (28 + i) j).toInt + t.toInt * (M (28 + i) c).toInt) % P) → k65 (nI (j + 1)) M') : ∃ f, L_MP_clearRow_98 K k65 (nI k) (nI c) (nI n) (lN P) (nI j) t f (nI k) M := by
  obtain ⟨q1, q2, q3, q4⟩ := z_lNp p0 p1
  have key : ∀ d i (M1 : zM), i + d = n → k ≤ i → (∀ a, ¬ (28 + k ≤ a ∧ a < 28 + n) → M1 a = M a) → (∀ l, i ≤ l → M1 (28 + l) = M (28 + l)) → (∀ u l, k ≤ u → u < i → l ≠ j → M1 (28 + u) l = M (28 + u) l) → (∀ u, k ≤ u → u < i → (M1 (28 + u) j).toInt = ((M (28 + u) j).toInt + t.toInt * (M (28 + u) c).toInt) % P) → ∃ f, L_MP_clearRow_98 K k65 (nI k) (nI c) (nI n) (lN P) (nI j) t f (nI i) M1 := by
    intro d
    induction d with
    | zero =>
      intro i M1 hi hki h1 h2 h3 h4
      have : i = n := by omega
      subst this
      exact ⟨1, ⟨fun _ => by rw [nI_1]; exact q M1 h1 (fun u l a b e => h3 u l a b e) (fun u a b => h4 u a b), fun e => absurd (Int32.le_refl _) e⟩⟩
    | succ d ih =>
      intro i M1 hi hki h1 h2 h3 h4
      have er : M1 (28 + i) = M (28 + i) := h2 i (Nat.le_refl _)
      have hz := hr i hki (by omega)
      have hxj := hz j hj
      have hxc := hz c hc
      obtain ⟨m1, m2, m3⟩ := z_mulp p1 ht0 ht1 hxc.1 hxc.2
      have ea : (M (28 + i) j + t * M (28 + i) c).toInt = (M (28 + i) j).toInt + t.toInt * (M (28 + i) c).toInt := by
        rw [zx_add (by rw [m1]; omega) (by rw [m1]; omega), m1]
      obtain ⟨f, hf⟩ := ih (i + 1) (zput M1 (28 + i) j (zrs (M (28 + i) j + t * M (28 + i) c) (lN P))) (by omega) (by omega) (fun a x => by rw [zput_ne (by omega)]; exact h1 a x) (fun l hl => by rw [zput_ne (by omega)]; exact h2 l (by omega)) (fun u l a b e => by
        by_cases g : u = i
        · subst g; rw [zput_n2 e, er]
        · rw [zput_ne (by omega)]; exact h3 u l a (by omega) e) (fun u a b => by
        by_cases g : u = i
        · subst g; rw [zput_eq, zrs_e q2 (by rw [ea]; omega), ea, q1]
        · rw [zput_ne (by omega)]; exact h4 u a (by omega))
      have g27 : vp_in (nI i) (zgn 27) := vp_in_nI (N := 8) (by omega) (by decide)
      have gj : vp_in (nI j) (zlong (27 + 1 + i)) := by rw [z28 i (by omega)]; exact vp_in_nI hj (by decide)
      have gc : vp_in (nI c) (zlong (27 + 1 + i)) := by rw [z28 i (by omega)]; exact vp_in_nI hc (by decide)
      refine ⟨f + 1, ⟨fun e => absurd e (nI_ge (by omega) (by omega)), fun _ => ?_⟩⟩
      rw [nI_clamp (by omega), nI_clamp (by omega), nI_clamp (by omega), nI_1]
      refine ⟨g27, g27, gj, g27, gc, s_residue q3 ⟨gj, fun M15 e15 => ?_⟩⟩
      rw [e15, show 27 + 1 + i = 28 + i by omega, er]
      exact hf
  exact key (n - k) k M (by omega) (Nat.le_refl _) (fun _ _ => rfl) (fun _ _ => rfl) (fun u l a b => by omega) (fun u a b => by omega)
theorem s_clear65 {K : zM → Prop} {k c n P : Nat} {M : zM} (hkn : k < n) (hn : n < 8) (hc : c < n) (p0 : 0 < P) (p1 : P < 2 ^ 31) (hr : ∀ i, k ≤ i → i < n → zrw P 8 (M (28 + i)))
    (q : ∀ M' : zM, (∀ a, ¬ (28 + k ≤ a ∧ a < 28 + n) → M' a = M a) → (∀ i, k ≤ i → i < n → zrw P 8 (M' (28 + i)) ∧ (∀ l, n ≤ l → M' (28 + i) l = M (28 + i) l) ∧ M' (28 + i) c = M (28 + i) c ∧ ∀ j, j < n → j ≠ c → (P : Int) ∣ (M' (28 + i) j).toInt - ((M (28 + i) j).toInt + (M (28 + k) j).toInt * (M (28 + i) c).toInt)) → K M') : ∃ f, L_MP_clearRow_65 K (nI k) (nI c) (nI n) (lN P) f (0 : Int32) M := by
  have key : ∀ d j (M1 : zM), j + d = n → (∀ a, ¬ (28 + k ≤ a ∧ a < 28 + n) → M1 a = M a) → (∀ i, k ≤ i → i < n → zrw P 8 (M1 (28 + i)) ∧ (∀ l, n ≤ l → M1 (28 + i) l = M (28 + i) l) ∧ M1 (28 + i) c = M (28 + i) c ∧ (∀ l, j ≤ l → M1 (28 + i) l = M (28 + i) l) ∧ ∀ l, l < j → l ≠ c → (P : Int) ∣ (M1 (28 + i) l).toInt - ((M (28 + i) l).toInt + (M (28 + k) l).toInt * (M (28 + i) c).toInt)) → L_MP_clearRow_65 K (nI k) (nI c) (nI n) (lN P) (d + 1) (nI j) M1 := by
    intro d
    induction d with
    | zero =>
      intro j M1 hj h1 h2
      have : j = n := by omega
      subst this
      refine ⟨fun _ => q M1 h1 (fun i a b => ?_), fun e => absurd (Int32.le_refl _) e⟩
      obtain ⟨x1, x2, x3, _, x5⟩ := h2 i a b
      exact ⟨x1, x2, x3, x5⟩
    | succ d ih =>
      intro j M1 hj h1 h2
      have g27 : vp_in (nI k) (zgn 27) := vp_in_nI (N := 8) (by omega) (by decide)
      have gj : vp_in (nI j) (zlong (27 + 1 + k)) := by rw [z28 k (by omega)]; exact vp_in_nI (by omega) (by decide)
      refine ⟨fun e => absurd e (nI_ge (by omega) (by omega)), fun _ => ⟨g27, ?_⟩⟩
      rw [nI_clamp (by omega), nI_clamp (by omega), nI_1]
      refine ⟨gj, fun x11 e11 => ?_⟩
      rw [show 27 + 1 + k = 28 + k by omega, (h2 k (Nat.le_refl _) hkn).2.2.2.1 j (Nat.le_refl _)] at e11
      refine ⟨fun e => ?_, fun e => ⟨fun e0 => ?_, fun e0 => ?_⟩⟩
      · have ejc : j = c := (nI_eq (by omega) (by omega)).mp e
        refine ih (j + 1) M1 (by omega) h1 (fun i a b => ?_)
        obtain ⟨x1, x2, x3, x4, x5⟩ := h2 i a b
        exact ⟨x1, x2, x3, fun l hl => x4 l (by omega), fun l hl hlc => x5 l (by omega) hlc⟩
      · refine ih (j + 1) M1 (by omega) h1 (fun i a b => ?_)
        obtain ⟨x1, x2, x3, x4, x5⟩ := h2 i a b
        refine ⟨x1, x2, x3, fun l hl => x4 l (by omega), fun l hl hlc => ?_⟩
        by_cases g : l = j
        · subst g
          rw [x4 l (Nat.le_refl _), ← e11, e0]
          show (P : Int) ∣ _ - (_ + (0 : Int) * _)
          exact ⟨0, by rw [Int.mul_zero, Int.zero_mul]; omega⟩
        · exact x5 l (by omega) hlc
      · have ejc : j ≠ c := fun g => e (by rw [g])
        have hz := (hr k (Nat.le_refl _) hkn) j (by omega)
        rw [← e11] at hz
        refine s_clear98 (by omega) hn (by omega) (by omega) ejc p0 p1 hz.1 hz.2 (fun i a b => (h2 i a b).1) (fun M' y1 y2 y3 => ?_)
        refine ih (j + 1) M' (by omega) (fun a x => by rw [y1 a x]; exact h1 a x) (fun i a b => ?_)
        obtain ⟨x1, x2, x3, x4, x5⟩ := h2 i a b
        refine ⟨fun l hl => ?_, fun l hl => by rw [y2 i l a b (by omega)]; exact x2 l hl, by rw [y2 i c a b (fun g => ejc g.symm)]; exact x3, fun l hl => by rw [y2 i l a b (by omega)]; exact x4 l (by omega), fun l hl hlc => ?_⟩
        · by_cases g : l = j
          · rw [g, y3 i a b]; exact z_emod p0 _
          · rw [y2 i l a b g]; exact x1 l hl
        · by_cases g : l = j
          · subst g
            rw [y3 i a b, x4 l (Nat.le_refl _), x3, ← e11]
            exact mod_dvd _ _
          · rw [y2 i l a b g]; exact x5 l (by omega) hlc
  exact ⟨n + 1, key n 0 M (by omega) (fun _ _ => rfl) (fun i a b => ⟨hr i a b, fun _ _ => rfl, rfl, fun _ _ => rfl, fun l hl => absurd hl (Nat.not_lt_zero _)⟩)⟩
theorem s_clearRow {K : zM → Prop} {k c n q : Nat} {M : zM} (hkn : k < n) (hn : n < 8) (hc : c < n) (hp : prm ((q + 2 : Nat) : Int)) (p1 : q + 2 < 2 ^ 31) (hr : ∀ i, k ≤ i → i < n → zrw (q + 2) 8 (M (28 + i))) (hne : M (28 + k) c ≠ 0)
    (kk : ∀ (M' : zM) (s : Int), (∀ a, ¬ (28 + k ≤ a ∧ a < 28 + n) → M' a = M a) → ((q + 2 : Nat) : Int) ∣ (M (28 + k) c).toInt * s + 1 → (∀ i, k ≤ i → i < n → zrw (q + 2) 8 (M' (28 + i)) ∧ ((q + 2 : Nat) : Int) ∣ (M' (28 + i) c).toInt - (M (28 + i) c).toInt * s ∧ ∀ j, j < n → j ≠ c → ((q + 2 : Nat) : Int) ∣ (M' (28 + i) j).toInt - ((M (28 + i) j).toInt + (M (28 + k) j).toInt * (M' (28 + i) c).toInt)) → K M') : w_MP_clearRow (nI k) (nI c) (nI n) (lN (q + 2)) M K := by
  obtain ⟨q1, q2, q3, q4⟩ := z_lNp (P := q + 2) (by omega) p1
  have g27 : vp_in (nI k) (zgn 27) := vp_in_nI (N := 8) (by omega) (by decide)
  have gc : vp_in (nI c) (zlong (27 + 1 + k)) := by rw [z28 k (by omega)]; exact vp_in_nI (by omega) (by decide)
  refine ⟨g27, ?_⟩
  rw [nI_clamp (by omega), nI_clamp (by omega)]
  refine ⟨gc, ?_⟩
  rw [show 27 + 1 + k = 28 + k by omega]
  have hx := hr k (Nat.le_refl _) hkn c (by omega)
  refine s_inverseOf p1 hx.1 hx.2 (fun v v0 v1 hv => s_residue q3 ?_)
  have hnd : ¬ ((q + 2 : Nat) : Int) ∣ (M (28 + k) c).toInt := fun d => by
    have h3 : (M (28 + k) c).toInt ≠ 0 := fun e => hne (by rw [← Int64.toInt_inj, e]; rfl)
    have := Int.le_of_dvd (by omega) d
    omega
  have en : (-v).toInt = -v.toInt := zx_neg (by omega)
  have es : (zrs (-v) (lN (q + 2))).toInt = (-v.toInt) % (q + 2 : Nat) := by rw [zrs_e q2 (by rw [en]; omega), en, q1]
  have esr := z_emod (P := q + 2) (by omega) (-v.toInt)
  generalize zrs (-v) (lN (q + 2)) = s at es
  rw [← es] at esr
  have hs : ((q + 2 : Nat) : Int) ∣ (M (28 + k) c).toInt * s.toInt + 1 := by
    obtain ⟨y, hy⟩ := hv
    obtain ⟨z, hz⟩ := fermat_inv hp hnd
    obtain ⟨w, hw⟩ := mod_dvd (-v.toInt) ((q + 2 : Nat) : Int)
    rw [← es] at hw
    exact ⟨(M (28 + k) c).toInt * w - (M (28 + k) c).toInt * y - z, by grind⟩
  have key : ∀ d i (M1 : zM), i + d = n → k ≤ i → (∀ a, ¬ (28 + k ≤ a ∧ a < 28 + n) → M1 a = M a) → (∀ l, i ≤ l → M1 (28 + l) = M (28 + l)) → (∀ u l, k ≤ u → u < i → l ≠ c → M1 (28 + u) l = M (28 + u) l) → (∀ u, k ≤ u → u < i → (M1 (28 + u) c).toInt = ((M (28 + u) c).toInt * s.toInt) % (q + 2 : Nat)) → ∃ f, L_MP_clearRow_24 K (nI k) (nI c) (nI n) (lN (q + 2)) s f (nI i) M1 := by
    intro d
    induction d with
    | zero =>
      intro i M1 hi hki h1 h2 h3 h4
      have : i = n := by omega
      subst this
      refine ⟨1, ⟨fun _ => ?_, fun e => absurd (Int32.le_refl _) e⟩⟩
      have hr1 : ∀ u, k ≤ u → u < i → zrw (q + 2) 8 (M1 (28 + u)) := fun u a b l hl => by
        by_cases g : l = c
        · rw [g, h4 u a b]; exact z_emod (by omega) _
        · rw [h3 u l a b g]; exact hr u a b l hl
      refine s_clear65 hkn hn hc (by omega) p1 hr1 (fun M' y1 y2 => kk M' s.toInt (fun a x => by rw [y1 a x]; exact h1 a x) hs (fun u a b => ?_))
      obtain ⟨x1, x2, x3, x5⟩ := y2 u a b
      refine ⟨x1, by rw [x3, h4 u a b]; exact mod_dvd _ _, fun j hj hjc => ?_⟩
      have := x5 j hj hjc
      rw [h3 u j a b hjc, h3 k j (Nat.le_refl _) hkn hjc, ← x3] at this
      exact this
    | succ d ih =>
      intro i M1 hi hki h1 h2 h3 h4
      have er : M1 (28 + i) = M (28 + i) := h2 i (Nat.le_refl _)
      have hxc := hr i hki (by omega) c (by omega)
      obtain ⟨m1, m2, m3⟩ := z_mulp p1 hxc.1 hxc.2 esr.1 esr.2
      obtain ⟨f, hf⟩ := ih (i + 1) (zput M1 (28 + i) c (zrs (M (28 + i) c * s) (lN (q + 2)))) (by omega) (by omega) (fun a x => by rw [zput_ne (by omega)]; exact h1 a x) (fun l hl => by rw [zput_ne (by omega)]; exact h2 l (by omega)) (fun u l a b e => by
        by_cases g : u = i
        · subst g; rw [zput_n2 e, er]
        · rw [zput_ne (by omega)]; exact h3 u l a (by omega) e) (fun u a b => by
        by_cases g : u = i
        · subst g; rw [zput_eq, zrs_e q2 (by rw [m1]; omega), m1, q1]
        · rw [zput_ne (by omega)]; exact h4 u a (by omega))
      have gi : vp_in (nI i) (zgn 27) := vp_in_nI (N := 8) (by omega) (by decide)
      have gci : vp_in (nI c) (zlong (27 + 1 + i)) := by rw [z28 i (by omega)]; exact vp_in_nI (by omega) (by decide)
      refine ⟨f + 1, ⟨fun e => absurd e (nI_ge (by omega) (by omega)), fun _ => ?_⟩⟩
      rw [nI_clamp (by omega), nI_clamp (by omega), nI_1]
      refine ⟨gi, gi, gci, s_residue q3 ⟨gci, fun M15 e15 => ?_⟩⟩
      rw [e15, show 27 + 1 + i = 28 + i by omega, er]
      exact hf
  exact key (n - k) k M (by omega) (Nat.le_refl _) (fun _ _ => rfl) (fun _ _ => rfl) (fun u l a b => by omega) (fun u a b => by omega)
