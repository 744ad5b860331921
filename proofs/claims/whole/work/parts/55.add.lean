/-! The joined end of calls that write a register; add. -/
theorem zcpy8 {M : zM} {f g i : Nat} (hi : i < 8) : zcpy M f g 0 0 8 g i = M f i := by
  rw [zcpy_at]
  unfold va_cpy
  simp [hi]
theorem zfit8 {f : Nat → Int64} {n : Nat} (h : zfit f n) (h8 : 8 ≤ n) : zdg f n = zdg f 8 := zdg_up h8 (fun i a b => (h i b).2 a)
/-- class and reference have the same numbers, and both keep them -/
theorem z_join {r a2 c n : Nat} {M Mc M2 M' : zM} {N N' : zN} (hr : r < 4) (hI : zreg M N) (h8 : 8 ≤ n) (hMc : ∀ a, ¬ (6 ≤ a ∧ a ≤ 78) → Mc a = M a) (hF : zfit (Mc c) n) (hM2 : M2 = zput (zcpy Mc c (2 + r) 0 0 8) 119 0 (nI (zdg (Mc c) 8) + (-1)).toInt64) (hM' : ∀ a, ¬ (104 ≤ a ∧ a ≤ 117) → M' a = M2 a) (he : ∀ i, i < 8 → M' a2 i = Mc c i) (hF2 : zfit (M' a2) 16)
    (n1 : ∀ j, j ≠ 0 → N' 99 j = N 99 j) (n2 : ∀ a, a ≠ 99 → a ≠ 100 → N' a = N a) (n3 : ∀ i, i < 8 → N' 100 (8 * r + i) = (M' a2 i).toInt32) (n4 : ∀ q, (∀ i, i < 8 → q ≠ 8 * r + i) → N' 100 q = N 100 q) : zreg M' N' ∧ zkp M N M' N' ∧ M' 119 0 = (nI (zdg (M' a2) 16) + (-1)).toInt64 := by
  have hd : zdg (M' a2) 16 = zdg (Mc c) 8 := by rw [zfit8 hF2 (by decide)]; exact zdg_congr he
  refine ⟨fun r' i hr' hi => ?_, ⟨fun k a b => ?_, n2, n1⟩, ?_⟩
  · rw [hM' _ (by omega), hM2, zput_ne (by omega)]
    by_cases e : r' = r
    · subst e
      have hv := (hF i (by omega)).1 hi
      rw [zcpy8 hi, n3 i hi, he i hi, zx_i (by omega) (by omega)]
      exact ⟨(zx_il (by omega) (by omega)).symm, hv⟩
    · rw [zcpy_ne (by omega), hMc _ (by omega), n4 _ (fun j hj => by omega)]
      exact hI r' i hr' hi
  · rw [hM' _ (by omega), hM2, zput_ne (by omega), zcpy_ne (by omega), hMc _ (by omega)]
  · rw [hM' _ (by omega), hM2, zput_eq, hd]
/-- class and reference have the same numbers, and they do not fit -/
theorem z_joinX {M Mc M' : zM} {N : zN} (hI : zreg M N) (hMc : ∀ a, ¬ (6 ≤ a ∧ a ≤ 78) → Mc a = M a) (hM' : ∀ a, ¬ (104 ≤ a ∧ a ≤ 117) → M' a = Mc a) (t : Int32) : zreg M' (zpui N 99 0 t) ∧ zkp M N M' (zpui N 99 0 t) := by
  refine ⟨fun r i hr hi => ?_, fun k a b => ?_, (z_kp0 (M := M) t).2⟩
  · rw [hM' _ (by omega), hMc _ (by omega)]
    exact z_reg0 hI t r i hr hi
  · rw [hM' _ (by omega), hMc _ (by omega)]
theorem zfit_congr {f g : Nat → Int64} {n : Nat} (h : ∀ i, i < n → f i = g i) (hf : zfit f n) : zfit g n := fun i hi => by
  have := hf i hi
  unfold zfo at this ⊢
  rw [← h i hi]; exact this
/-- the joined end, from what the rows hold -/
theorem z_end {K : zM → zN → Prop} {Q : Int32 → zM → Prop} {r a2 c : Nat} {M Mc : zM} {N : zN} (hr : r < 4) (hzc : zlong c = 16) (hz : zlong a2 = 16) (hI : zreg M N) (hk : ∀ M' N', zreg M' N' → zkp M N M' N' → K M' N') (hMc : ∀ a, ¬ (6 ≤ a ∧ a ≤ 78) → Mc a = M a)
    (hW : ∀ (q : Int32) (M2 : zM), (∀ a, ¬ (2 ≤ a ∧ a ≤ 5 ∨ a = 119) → M2 a = Mc a) → (∀ M' N0, (∀ a, ¬ (104 ≤ a ∧ a ≤ 117) → M' a = M2 a) → (∀ i, i < 16 → M' a2 i = Mc c i) → N0 = zpui N 99 0 0 → w_Mo_settle (nI r) a2 2 M' N0 (fun r17 N19 => zth K q r17 M' N19)) → Q q M2) :
    w_IS_keep (nI r) c Mc (fun r1 M2 => vp_in (0 : Int32) (zlong 119) ∧ ∀ M4 : zM, M4 = zput M2 119 (0 : Int32).toNatClampNeg r1.toInt64 → Q 0 M4) (fun k M5 => (k = 1 → Q 1 M5) ∧ (k = 3 → Q 2 M5) ∧ (k = 1 ∨ k = 3)) := by
  refine s_La_keep hr hzc (by decide) (by decide) (fun hF M2 e2 => ?_) (fun hF => ?_)
  · refine hW _ _ (fun a ha => by rw [e2, zput_ne (by omega), zcpy_ne (by omega)]) (fun M' N0 hM' he e0 => s_Mo_settle hr hz (by decide) (fun hF2 N' n0 n1 n2 n3 n4 => ?_) (fun hF2 => absurd (zfit_congr (fun i hi => (he i hi).symm) hF) hF2))
    subst e0
    obtain ⟨j1, j2, j3⟩ := z_join hr hI (by decide) hMc hF e2 hM' (fun i hi => he i (by omega)) hF2 (N := N) (fun j hj => by rw [n1 j hj, zpui_n2 hj]) (fun a x y => by rw [n2 a x y, zpui_ne x]) n3 (fun q hq => by rw [n4 q hq, zpui_ne (by decide)])
    exact z_th n0 (fun _ => j3) (hk _ _ j1 j2)
  · refine hW _ _ (fun _ _ => rfl) (fun M' N0 hM' he e0 => s_Mo_settle hr hz (by decide) (fun hF2 => absurd (zfit_congr he hF2) hF) (fun hF2 => ?_))
    have e1 : zpui N0 99 0 2 = zpui N 99 0 2 := by
      subst e0
      funext a j
      unfold zpui
      split <;> rfl
    rw [e1]
    obtain ⟨j1, j2⟩ := z_joinX hI hMc hM' 2
    exact z_th zpui_eq (fun h => absurd h (by decide)) (hk _ _ j1 j2)
theorem s_IS_add {r s t : Nat} {a4 : Int32} {M : zM} {P : Int32 → zM → Prop} {X : Nat → zM → Prop} (hr : r < 4) (hs : s < 4) (ht : t < 4) (k : ∀ Mc : zM, (∀ a, a ≠ 6 → Mc a = M a) → (∀ i, i < 8 → Mc 6 i = if a4 = 0 then M (2 + s) i + M (2 + t) i else M (2 + s) i - M (2 + t) i) → (∀ i, 8 ≤ i → i < 16 → Mc 6 i = 0) → w_IS_keep (nI r) 6 Mc (fun r19 M20 => P r19 M20) (fun k M22 => X k M22)) : w_IS_add (nI r) (nI s) (nI t) a4 M P X := by
  refine s_reg (fun _ => s_reg (fun _ => s_reg (fun _ => ?_) (fun h => absurd ⟨t, ht, rfl⟩ h)) (fun h => absurd ⟨s, hs, rfl⟩ h)) (fun h => absurd ⟨r, hr, rfl⟩ h)
  refine s_Ar_fillJ (n := 16) (by decide) (by decide) (by decide) (fun M0 f1 f2 => ?_)
  have key : ∀ d j (M1 : zM), j + d = 8 → (∀ a, a ≠ 6 → M1 a = M a) → (∀ i, i < j → M1 6 i = if a4 = 0 then M (2 + s) i + M (2 + t) i else M (2 + s) i - M (2 + t) i) → (∀ i, 8 ≤ i → i < 16 → M1 6 i = 0) → ∃ f, L_IS_add_23 P X (nI r) (nI s) (nI t) a4 f (nI j) M1 := by
    intro d
    induction d with
    | zero =>
      intro j M1 hj h1 h2 h3
      have : j = 8 := by omega
      subst this
      exact ⟨1, ⟨fun _ => k M1 h1 h2 h3, fun h => absurd (by decide) h⟩⟩
    | succ d ih =>
      intro j M1 hj h1 h2 h3
      have hi6 : vp_in (nI j) (zlong 6) := vp_in_nI (by show j < 16; omega) (by decide)
      obtain ⟨f, hf⟩ := ih (j + 1) (zput M1 6 j (if a4 = 0 then M (2 + s) j + M (2 + t) j else M (2 + s) j - M (2 + t) j)) (by omega) (fun a ha => by rw [zput_ne ha]; exact h1 a ha) (fun i hi => by
        by_cases e : i = j
        · subst e; rw [zput_eq]
        · rw [zput_n2 e]; exact h2 i (by omega)) (fun i a b => by rw [zput_n2 (by omega)]; exact h3 i a b)
      refine ⟨f + 1, ⟨fun h => absurd h (nI_ge (by omega) (by omega) : ¬ nI 8 ≤ nI j), fun _ => ⟨fun e4 => ?_, fun e4 => ?_⟩⟩⟩
      · rw [nI_clamp (by omega), nI_clamp (by omega), nI_clamp (by omega)]
        refine ⟨z_gn hs, z_l8 hs (by omega), z_gn ht, z_l8 ht (by omega), hi6, fun M2 e => ?_⟩
        rw [e, nI_1, h1 _ (by omega), h1 _ (by omega)]
        rw [if_pos e4] at hf
        exact hf
      · rw [nI_clamp (by omega), nI_clamp (by omega), nI_clamp (by omega)]
        refine ⟨z_gn hs, z_l8 hs (by omega), z_gn ht, z_l8 ht (by omega), hi6, fun M2 e => ?_⟩
        rw [e, nI_1, h1 _ (by omega), h1 _ (by omega)]
        rw [if_neg e4] at hf
        exact hf
  exact key 8 0 M0 rfl f1 (fun i hi => by omega) (fun i _ b => f2 i b)
theorem s_Mo_add {r s t : Nat} {a4 : Int32} {M : zM} {N : zN} {P : Int32 → zM → zN → Prop} (hr : r < 4) (hs : s < 4) (ht : t < 4) (k : ∀ (M' : zM) (N0 : zN), N0 = zpui N 99 0 0 → (∀ a, ¬ (104 ≤ a ∧ a ≤ 117) → M' a = M a) → (∀ i, i < 16 → M' 108 i = if a4 = 0 then zld N s i + zld N t i else zld N s i - zld N t i) → w_Mo_settle (nI r) 108 2 M' N0 (fun r17 N19 => P r17 M' N19)) : w_Mo_add (nI r) (nI s) (nI t) a4 M N P := by
  refine s_isReg (fun _ => ⟨fun h => absurd h (by decide), fun _ => ?_⟩) (fun h => absurd ⟨r, hr, rfl⟩ h)
  refine s_isReg (fun _ => ⟨fun h => absurd h (by decide), fun _ => ?_⟩) (fun h => absurd ⟨s, hs, rfl⟩ h)
  refine s_isReg (fun _ => ⟨fun h => absurd h (by decide), fun _ => ?_⟩) (fun h => absurd ⟨t, ht, rfl⟩ h)
  intro N0 e0
  have hz : N0 99 0 = 0 := by rw [e0, zpui_eq]
  have hzl : ∀ q, zld N0 q = zld N q := fun q => by rw [e0]; unfold zld; rw [zpui_ne (by decide)]
  rw [hz]
  refine ⟨fun _ => ?_, fun h => absurd (by decide) h⟩
  refine s_Mo_load hs (by decide) (fun Ma a1 a2 => s_Mo_load ht (by decide) (fun Mb b1 b2 => ?_))
  have key : ∀ d j (M1 : zM), j + d = 16 → (∀ a, a ≠ 108 → M1 a = Mb a) → (∀ i, i < j → M1 108 i = if a4 = 0 then zld N s i + zld N t i else zld N s i - zld N t i) → ∃ f, L_Mo_add_60 P (nI r) a4 N0 f (nI j) M1 := by
    intro d
    induction d with
    | zero =>
      intro j M1 hj h1 h2
      have : j = 16 := by omega
      subst this
      exact ⟨1, ⟨fun _ => k M1 N0 e0 (fun a ha => by rw [h1 a (by omega), b1 a (by omega), a1 a (by omega)]) h2, fun h => absurd (by decide) h⟩⟩
    | succ d ih =>
      intro j M1 hj h1 h2
      have hi : ∀ q, zlong q = 16 → vp_in (nI j) (zlong q) := fun q hq => by rw [hq]; exact vp_in_nI (by omega) (by decide)
      have v6 : M1 106 j = zld N s j := by rw [h1 106 (by decide), b1 106 (by decide), a2 j (by omega), hzl]
      have v7 : M1 107 j = zld N t j := by rw [h1 107 (by decide), b2 j (by omega), hzl]
      obtain ⟨f, hf⟩ := ih (j + 1) (zput M1 108 j (if a4 = 0 then zld N s j + zld N t j else zld N s j - zld N t j)) (by omega) (fun a ha => by rw [zput_ne ha]; exact h1 a ha) (fun i hi => by
        by_cases e : i = j
        · subst e; rw [zput_eq]
        · rw [zput_n2 e]; exact h2 i (by omega))
      refine ⟨f + 1, ⟨fun h => absurd h (nI_ge (by omega) (by omega) : ¬ nI 16 ≤ nI j), fun _ => ⟨fun e4 => ⟨hi 106 (by decide), hi 107 (by decide), hi 108 (by decide), fun M2 e => ?_⟩, fun e4 => ⟨hi 106 (by decide), hi 107 (by decide), hi 108 (by decide), fun M2 e => ?_⟩⟩⟩⟩
      · rw [e, nI_clamp (by omega), nI_1, v6, v7]
        rw [if_pos e4] at hf
        exact hf
      · rw [e, nI_clamp (by omega), nI_1, v6, v7]
        rw [if_neg e4] at hf
        exact hf
  exact key 16 0 Mb rfl (fun _ _ => rfl) (fun i hi => by omega)
/-- the class's places as the reference loads them -/
theorem z_ld {M : zM} {N : zN} (hI : zreg M N) {r i : Nat} (hr : r < 4) (hi : i < 8) : zld N r i = M (2 + r) i := by
  unfold zld
  rw [if_pos hi, (hI r i hr hi).1]
theorem z_ld0 {N : zN} {r i : Nat} (hi : 8 ≤ i) : zld N r i = 0 := by
  unfold zld
  rw [if_neg (by omega)]
theorem u_add {a1 a2 a3 a4 : Int32} {M : zM} {N : zN} {K : zM → zN → Prop} {Q : Int32 → zM → Prop} (hI : zreg M N) (hk : ∀ M' N', zreg M' N' → zkp M N M' N' → K M' N') (hQ : ∀ q M1, w_Mo_add a1 a2 a3 a4 M1 N (fun r4 M5 N6 => zth K q r4 M5 N6) → Q q M1) : w_La_add a1 a2 a3 a4 M Q := by
  by_cases h : zR a1 4 ∧ zR a2 4 ∧ zR a3 4
  · obtain ⟨⟨r, hr, rfl⟩, ⟨s, hs, rfl⟩, ⟨t, ht, rfl⟩⟩ := h
    refine s_IS_add hr hs ht (fun Mc c1 c2 c3 => ?_)
    refine z_end (a2 := 108) hr (by decide) (by decide) hI hk (fun a ha => c1 a (by omega)) (fun q M2 _ hW => hQ _ _ (s_Mo_add hr hs ht (fun M' N0 e0 m1 m2 => hW M' N0 m1 (fun i hi => ?_) e0)))
    rw [m2 i hi]
    rcases Nat.lt_or_ge i 8 with g | g
    · rw [c2 i g, z_ld hI hs g, z_ld hI ht g]
    · rw [c3 i g hi, z_ld0 g, z_ld0 g]
      split <;> rfl
  · have hb : Q 1 M := by
      refine hQ _ _ ?_
      have hJ : J_Mo_add_27 (fun r4 M5 N6 => zth K 1 r4 M5 N6) a1 a2 a3 a4 1 M N := fun N4 e => by
        subst e
        rw [zpui_eq]
        exact ⟨fun h => absurd h (by decide), fun _ => z_th zpui_eq (fun h => absurd h (by decide)) (hk _ _ (z_reg0 hI 1) (z_kp0 1))⟩
      refine s_isReg (fun h1 => ⟨fun h => absurd h (by decide), fun _ => ?_⟩) (fun _ => ⟨fun _ => hJ, fun h => absurd rfl h⟩)
      refine s_isReg (fun h2 => ⟨fun h => absurd h (by decide), fun _ => ?_⟩) (fun _ => ⟨fun _ => hJ, fun h => absurd rfl h⟩)
      exact s_isReg (fun h3 => absurd ⟨h1, h2, h3⟩ h) (fun _ => ⟨fun _ => hJ, fun h => absurd rfl h⟩)
    have hX : (1 = 1 → Q 1 M) ∧ (1 = 3 → Q 2 M) ∧ (1 = 1 ∨ 1 = 3) := ⟨fun _ => hb, fun h => absurd h (by decide), Or.inl rfl⟩
    exact s_reg (fun h1 => s_reg (fun h2 => s_reg (fun h3 => absurd ⟨h1, h2, h3⟩ h) (fun _ => hX)) (fun _ => hX)) (fun _ => hX)
