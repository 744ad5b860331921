/-! isBefore and sort of the reference. -/
theorem Nf_v {M : zM} {i k : Nat} (hk : k < 8) : (Nf M i).1 k = (M 103 (8 * i + k)).toInt := by
  show pr 8 (fun k => M 103 (8 * i + k)) k = _
  rw [pr_lt hk]
theorem e8i {i k : Nat} : (8 : Int32) * nI i + nI k = nI (8 * i + k) := by rw [show (8 : Int32) = nI 8 from rfl, pk_mul, nI_add]
theorem s_isBefore {P : Int32 → Prop} {i j d e : Nat} {M : zM} (hi : i < 7) (hj : j < 7) (d8 : d < 8) (e8 : e < 8) (F1 : 0 < (Nf M i).1 d) (F2 : dl (d + 1) (Nf M i)) (G1 : 0 < (Nf M j).1 e) (G2 : dl (e + 1) (Nf M j)) (yes : bef (Nf M i) (Nf M j) → P 1) (no : ¬ bef (Nf M i) (Nf M j) → P 0) : w_Mo_isBefore (nI i) (nI j) M P := by
  have ix : ∀ a k, a < 7 → k < 8 → vp_in (nI (8 * a + k)) (zlong 103) := fun a k h1 h2 => vp_in_nI (N := 56) (by omega) (by decide)
  have hJ : ∀ k, k < 8 → (∀ t, k < t → t < 8 → (Nf M i).1 t = (Nf M j).1 t) → (k = 0 ∨ (Nf M i).1 k ≠ (Nf M j).1 k) → J_Mo_isBefore_95 P (nI i) (nI j) (nI d) (nI e) (nI k) M := by
    intro k k8 h1 h2
    refine ⟨fun c => ⟨rfl, yes ?_⟩, fun c => ⟨fun c2 => ⟨rfl, no (fun hb => ?_)⟩, fun c2 => ?_⟩⟩
    · rw [nI_ltI (by omega) (by omega)] at c
      exact bef_deg c e8 F2 G2 G1
    · rw [nI_ltI (by omega) (by omega)] at c
      have hne : d ≠ e := fun x => c2 (by rw [x])
      exact bef_asymm hb (bef_deg (by omega) d8 G2 F2 F1)
    · rw [e8i, e8i, nI_clamp (by omega), nI_clamp (by omega)]
      refine ⟨ix i k hi k8, ix j k hj k8, fun c3 => ⟨rfl, no (fun hb => ?_)⟩, fun c3 => ⟨rfl, yes ?_⟩⟩
      · rw [Int64.le_iff_toInt_le, ← Nf_v k8, ← Nf_v k8] at c3
        obtain ⟨t, t1, t2, t3⟩ := hb
        rcases Nat.lt_trichotomy t k with q | q | q
        · have := t3 k q k8
          omega
        · subst q; omega
        · have := h1 t q t1
          omega
      · rw [Int64.le_iff_toInt_le, ← Nf_v k8, ← Nf_v k8] at c3
        exact ⟨k, k8, by omega, h1⟩
  have l56 : ∀ k, k < 8 → (∀ t, k < t → t < 8 → (Nf M i).1 t = (Nf M j).1 t) → L_Mo_isBefore_56 P (nI i) (nI j) (nI d) (nI e) M (k + 1) (nI k) := by
    intro k
    induction k with
    | zero =>
      intro k8 h1
      exact ⟨fun _ => hJ 0 k8 h1 (Or.inl rfl), fun c => absurd (by decide) c⟩
    | succ k ih =>
      intro k8 h1
      refine ⟨fun c => absurd c (nI_nle (by omega) (by omega)), fun _ => ?_⟩
      rw [e8i, e8i, nI_clamp (by omega), nI_clamp (by omega), pk_m1]
      refine ⟨ix i _ hi k8, ix j _ hj k8, fun c => hJ (k + 1) k8 h1 (Or.inr (fun x => c ?_)), fun c => ih (by omega) (fun t ht t8 => ?_)⟩
      · rw [Nf_v k8, Nf_v k8] at x
        exact Int64.toInt_inj.mp x
      · by_cases q : t = k + 1
        · rw [q, Nf_v k8, Nf_v k8, c]
        · exact h1 t (by omega) t8
  have l29 : ∀ u, e + u < 8 → L_Mo_isBefore_29 P (nI i) (nI j) (nI d) M (u + 1) (nI (e + u)) := by
    intro u
    induction u with
    | zero =>
      intro h
      show B_Mo_isBefore_29 P (nI i) (nI j) (nI d) M _ (nI e)
      unfold B_Mo_isBefore_29
      rw [e8i, nI_clamp (by omega)]
      refine ⟨ix j e hj e8, fun _ => ⟨8, l56 7 (by decide) (fun t a b => by omega)⟩, fun c => ?_⟩
      exfalso
      rw [Nf_v e8, c] at G1
      exact absurd G1 (by decide)
    | succ u ih =>
      intro h
      show B_Mo_isBefore_29 P (nI i) (nI j) (nI d) M _ (nI (e + (u + 1)))
      unfold B_Mo_isBefore_29
      rw [e8i, nI_clamp (by omega), show e + (u + 1) = (e + u) + 1 by omega, pk_m1]
      refine ⟨ix j _ hj (by omega), fun c => absurd ?_ c, fun _ => ih (by omega)⟩
      have := G2 (e + u + 1) (by omega)
      rw [Nf_v (by omega)] at this
      rw [← Int64.toInt_inj, this]; rfl
  have l7 : ∀ u, d + u < 8 → L_Mo_isBefore_7 P (nI i) (nI j) (7 : Int32) M (u + 1) (nI (d + u)) := by
    intro u
    induction u with
    | zero =>
      intro h
      show B_Mo_isBefore_7 P (nI i) (nI j) (7 : Int32) M _ (nI d)
      unfold B_Mo_isBefore_7
      rw [e8i, nI_clamp (by omega)]
      refine ⟨ix i d hi d8, fun _ => ⟨7 - e + 1, ?_⟩, fun c => ?_⟩
      · have := l29 (7 - e) (by omega)
        rw [show e + (7 - e) = 7 by omega] at this
        exact this
      · exfalso
        rw [Nf_v d8, c] at F1
        exact absurd F1 (by decide)
    | succ u ih =>
      intro h
      show B_Mo_isBefore_7 P (nI i) (nI j) (7 : Int32) M _ (nI (d + (u + 1)))
      unfold B_Mo_isBefore_7
      rw [e8i, nI_clamp (by omega), show d + (u + 1) = (d + u) + 1 by omega, pk_m1]
      refine ⟨ix i _ hi (by omega), fun c => absurd ?_ c, fun _ => ih (by omega)⟩
      have := F2 (d + u + 1) (by omega)
      rw [Nf_v (by omega)] at this
      rw [← Int64.toInt_inj, this]; rfl
  have := l7 (7 - d) (by omega)
  rw [show d + (7 - d) = 7 by omega] at this
  exact ⟨7 - d + 1, this⟩
/-- two rows change places -/
theorem s_sort29 {P : zM → Prop} {k12 : Int32 → zM → Prop} {v1 : Int32} {t : Nat} {N : zN} {M : zM} (ht : t + 1 < 7)
    (k : ∀ M' : zM, (∀ a, a ≠ 103 → M' a = M a) → Nf M' (t + 1) = Nf M t → Nf M' t = Nf M (t + 1) → (∀ i, i ≠ t → i ≠ t + 1 → Nf M' i = Nf M i) → k12 (nI t) M') : ∃ f, L_Mo_sort_29 P k12 v1 (nI (t + 1)) N f (0 : Int32) M := by
  have key : ∀ u j (M1 : zM), j + u = 8 → (∀ a, a ≠ 103 → M1 a = M a) → (∀ q, M1 103 q = if 8 * t ≤ q ∧ q < 8 * t + j then M 103 (q + 8) else if 8 * (t + 1) ≤ q ∧ q < 8 * (t + 1) + j then M 103 (q - 8) else M 103 q) → L_Mo_sort_29 P k12 v1 (nI (t + 1)) N (u + 1) (nI j) M1 := by
    intro u
    induction u with
    | zero =>
      intro j M1 hj g1 g2
      have : j = 8 := by omega
      subst this
      refine ⟨fun _ => ?_, fun c => absurd (Int32.le_refl _) c⟩
      rw [pk_m1]
      refine k M1 g1 (prP_congr (fun i hi => ?_)) (prP_congr (fun i hi => ?_)) (fun i h1 h2 => prP_congr (fun q hq => ?_))
      · show M1 103 (8 * (t + 1) + i) = M 103 (8 * t + i)
        rw [g2, if_neg (by omega), if_pos (by omega)]
        congr 1
        omega
      · show M1 103 (8 * t + i) = M 103 (8 * (t + 1) + i)
        rw [g2, if_pos (by omega)]
        congr 1
        omega
      · show M1 103 (8 * i + q) = M 103 (8 * i + q)
        rw [g2, if_neg (by omega), if_neg (by omega)]
    | succ u ih =>
      intro j M1 hj g1 g2
      have e1 : ((8 : Int32) * nI (t + 1) - (8 : Int32)) + nI j = nI (8 * t + j) := by
        rw [show (8 : Int32) = nI 8 from rfl, pk_mul, pk_sub (by omega), nI_add]
        exact congrArg nI (by omega)
      have i1 : vp_in (nI (8 * (t + 1) + j)) (zlong 103) := vp_in_nI (N := 56) (by omega) (by decide)
      have i0 : vp_in (nI (8 * t + j)) (zlong 103) := vp_in_nI (N := 56) (by omega) (by decide)
      refine ⟨fun c => absurd c (nI_ge (b := 8) (by omega) (by omega)), fun _ => ?_⟩
      rw [e1, e8i, nI_clamp (by omega), nI_clamp (by omega)]
      refine ⟨i1, fun x4 e4 => ⟨i0, i1, fun M5 e5 => ⟨i0, fun M6 e6 => ?_⟩⟩⟩
      rw [nI_1]
      have v0 : M1 103 (8 * t + j) = M 103 (8 * t + j) := by rw [g2, if_neg (by omega), if_neg (by omega)]
      have v1 : M1 103 (8 * (t + 1) + j) = M 103 (8 * (t + 1) + j) := by rw [g2, if_neg (by omega), if_neg (by omega)]
      refine ih (j + 1) M6 (by omega) (fun a x => by rw [e6, zput_ne x, e5, zput_ne x]; exact g1 a x) (fun q => ?_)
      by_cases c0 : q = 8 * t + j
      · subst c0
        rw [if_pos (by omega), e6, zput_eq, e4, v1]
        congr 1
        omega
      · rw [e6, zput_n2 c0, e5]
        by_cases c1 : q = 8 * (t + 1) + j
        · subst c1
          rw [zput_eq, v0, if_neg (by omega), if_pos (by omega)]
          congr 1
          omega
        · rw [zput_n2 c1, g2]
          by_cases c2 : 8 * t ≤ q ∧ q < 8 * t + j
          · rw [if_pos c2, if_pos (by omega)]
          · have n2 : ¬ (8 * t ≤ q ∧ q < 8 * t + (j + 1)) := by omega
            rw [if_neg c2, if_neg n2]
            by_cases c3 : 8 * (t + 1) ≤ q ∧ q < 8 * (t + 1) + j
            · rw [if_pos c3, if_pos (by omega)]
            · have n3 : ¬ (8 * (t + 1) ≤ q ∧ q < 8 * (t + 1) + (j + 1)) := by omega
              rw [if_neg c3, if_neg n3]
  exact ⟨9, key 8 0 M (by decide) (fun _ _ => rfl) (fun q => by rw [if_neg (by omega), if_neg (by omega)])⟩
/-- the same rows, in some order -/
def sam (r : Nat) (F G : Nat → Pl) : Prop := (∀ i, i < r → ∃ j, j < r ∧ F i = G j) ∧ (∀ j, j < r → ∃ i, i < r ∧ G j = F i) ∧ ∀ i j, i < j → j < r → F i ≠ F j
theorem sam_swap {r t : Nat} {F G F' : Nat → Pl} (ht : t + 1 < r) (h : sam r F G) (h1 : F' (t + 1) = F t) (h0 : F' t = F (t + 1)) (h2 : ∀ i, i ≠ t → i ≠ t + 1 → F' i = F i) : sam r F' G := by
  obtain ⟨a, b, c⟩ := h
  have sw : ∀ i, i < r → ∃ i', i' < r ∧ F' i = F i' ∧ F' i' = F i ∧ (i' = if i = t then t + 1 else if i = t + 1 then t else i) := fun i hi => by
    by_cases c0 : i = t
    · exact ⟨t + 1, ht, by rw [c0, h0], by rw [c0, h1], by rw [if_pos c0]⟩
    · by_cases c1 : i = t + 1
      · exact ⟨t, by omega, by rw [c1, h1], by rw [c1, h0], by rw [if_neg c0, if_pos c1]⟩
      · exact ⟨i, hi, h2 i c0 c1, h2 i c0 c1, by rw [if_neg c0, if_neg c1]⟩
  refine ⟨fun i hi => ?_, fun j hj => ?_, fun i j hij hj e => ?_⟩
  · obtain ⟨i', x1, x2, _⟩ := sw i hi
    obtain ⟨j, y1, y2⟩ := a i' x1
    exact ⟨j, y1, by rw [x2, y2]⟩
  · obtain ⟨i, y1, y2⟩ := b j hj
    obtain ⟨i', x1, _, x3, _⟩ := sw i y1
    exact ⟨i', x1, by rw [y2, x3]⟩
  · obtain ⟨i', x1, x2, _, x4⟩ := sw i (by omega)
    obtain ⟨j', y1, y2, _, y4⟩ := sw j hj
    rw [x2, y2] at e
    have hne : i' ≠ j' := by
      rw [x4, y4]
      by_cases c0 : i = t
      · rw [if_pos c0]
        by_cases c1 : j = t + 1
        · rw [if_neg (by omega), if_pos c1]; omega
        · rw [if_neg (by omega), if_neg c1]; omega
      · rw [if_neg c0]
        by_cases c1 : i = t + 1
        · rw [if_pos c1, if_neg (by omega), if_neg (by omega)]; omega
        · rw [if_neg c1]
          by_cases c2 : j = t
          · rw [if_pos c2]; omega
          · rw [if_neg c2]
            by_cases c3 : j = t + 1
            · rw [if_pos c3]; omega
            · rw [if_neg c3]; omega
    rcases Nat.lt_or_gt_of_ne hne with q | q
    · exact c i' j' q y1 e
    · exact c j' i' q x1 e.symm
theorem s_sort {K : zM → Prop} {r : Nat} {M : zM} {N : zN} (hr : r ≤ 7) (hN : N 99 6 = nI r) (hd : ∀ i j, i < j → j < r → Nf M i ≠ Nf M j) (hp : ∀ i, i < r → ∃ d, d < 8 ∧ 0 < (Nf M i).1 d ∧ dl (d + 1) (Nf M i))
    (k : ∀ M' : zM, (∀ a, a ≠ 103 → M' a = M a) → srt (Nf M') r → sam r (Nf M') (Nf M) → K M') : w_Mo_sort M N K := by
  have pos : ∀ M1 : zM, sam r (Nf M1) (Nf M) → ∀ i, i < r → ∃ d, d < 8 ∧ 0 < (Nf M1 i).1 d ∧ dl (d + 1) (Nf M1 i) := fun M1 h i hi => by
    obtain ⟨j, j1, j2⟩ := h.1 i hi
    rw [j2]
    exact hp j j1
  have inner : ∀ (k2 : Int32 → zM → Prop) (i : Nat), i < r → (∀ M1 : zM, (∀ a, a ≠ 103 → M1 a = M a) → srt (Nf M1) (i + 1) → sam r (Nf M1) (Nf M) → k2 (nI (i + 1)) M1) → ∀ j (M1 : zM), j ≤ i → (∀ a, a ≠ 103 → M1 a = M a) → sam r (Nf M1) (Nf M) → (∀ a b, a < b → b ≤ i → a ≠ j → b ≠ j → bef (Nf M1 a) (Nf M1 b)) → (∀ b, j < b → b ≤ i → bef (Nf M1 j) (Nf M1 b)) → L_Mo_sort_12 K k2 (nI i) N (j + 1) (nI j) M1 := by
    intro k2 i hi nx j
    induction j with
    | zero =>
      intro M1 hj g1 g2 g3 g4
      refine ⟨fun _ => ?_, fun c => absurd (by decide) c⟩
      rw [nI_1]
      refine nx M1 g1 (fun a b hab hb => ?_) g2
      by_cases c : a = 0
      · rw [c]; exact g4 b (by omega) (by omega)
      · exact g3 a b hab (by omega) c (by omega)
    | succ t ih =>
      intro M1 hj g1 g2 g3 g4
      refine ⟨fun c => absurd c (nI_nle (by omega) (by omega)), fun _ => ?_⟩
      rw [show (1 : Int32) = nI 1 from rfl, pk_sub (by omega), show t + 1 - 1 = t by omega]
      obtain ⟨d, d1, d2, d3⟩ := pos M1 g2 (t + 1) (by omega)
      obtain ⟨e, e1, e2, e3⟩ := pos M1 g2 t (by omega)
      refine s_isBefore (by omega) (by omega) d1 e1 d2 d3 e2 e3 (fun hb => ⟨fun c => absurd c (by decide), fun _ => s_sort29 (by omega) (fun M2 f1 f2 f3 f4 => ?_)⟩) (fun hb => ⟨fun _ => ?_, fun c => absurd rfl c⟩)
      · refine ih M2 (by omega) (fun a x => by rw [f1 a x]; exact g1 a x) (sam_swap (by omega) g2 f2 f3 f4) (fun a b hab hb' ha hb2 => ?_) (fun b hb1 hb2 => ?_)
        · by_cases ca : a = t + 1
          · rw [ca, f2, f4 b (by omega) (by omega)]
            exact g3 t b (by omega) hb' (by omega) (by omega)
          · rw [f4 a ha ca]
            by_cases cb : b = t + 1
            · rw [cb, f2]
              exact g3 a t (by omega) (by omega) ca (by omega)
            · rw [f4 b hb2 cb]
              exact g3 a b hab hb' ca cb
        · rw [f3]
          by_cases cb : b = t + 1
          · rw [cb, f2]; exact hb
          · rw [f4 b (by omega) cb]
            exact g4 b (by omega) hb2
      · have hb2 : bef (Nf M1 t) (Nf M1 (t + 1)) := by
          rcases bef_tri (prP_dl (n := 8)) (prP_dl (n := 8)) (a := Nf M1 t) (b := Nf M1 (t + 1)) with c | c | c
          · exact absurd c (g2.2.2 t (t + 1) (by omega) (by omega))
          · exact c
          · exact absurd c hb
        rw [show nI i + nI 1 = nI (i + 1) from nI_add _ _]
        refine nx M1 g1 (fun a b hab hbi => ?_) g2
        by_cases ca : a = t + 1
        · rw [ca]; exact g4 b (by omega) (by omega)
        · by_cases cb : b = t + 1
          · rw [cb]
            by_cases ct : a = t
            · rw [ct]; exact hb2
            · exact bef_trans (g3 a t (by omega) (by omega) ca (by omega)) hb2
          · exact g3 a b hab (by omega) ca cb
  have outer : ∀ u i (M1 : zM), i + u = r → (∀ a, a ≠ 103 → M1 a = M a) → srt (Nf M1) i → sam r (Nf M1) (Nf M) → L_Mo_sort_2 K N (u + 1) (nI i) M1 := by
    intro u
    induction u with
    | zero =>
      intro i M1 hi g1 g2 g3
      have : i = r := by omega
      subst this
      exact ⟨fun _ => k M1 g1 g2 g3, fun c => absurd (by rw [hN]; exact Int32.le_refl _) c⟩
    | succ u ih =>
      intro i M1 hi g1 g2 g3
      refine ⟨fun c => ?_, fun _ => ⟨i + 1, inner _ i (by omega) (fun M2 f1 f2 f3 => ih (i + 1) M2 (by omega) f1 f2 f3) i M1 (Nat.le_refl _) g1 g3 (fun a b hab hb _ hb2 => g2 a b hab (by omega)) (fun b h1 h2 => by omega)⟩⟩
      rw [hN] at c
      exact absurd c (nI_ge (by omega) (by omega))
  exact ⟨r + 1, outer r 0 M (by omega) (fun _ _ => rfl) (fun i j _ hj => absurd hj (Nat.not_lt_zero _)) ⟨fun i hi => ⟨i, hi, rfl⟩, fun i hi => ⟨i, hi, rfl⟩, hd⟩⟩
