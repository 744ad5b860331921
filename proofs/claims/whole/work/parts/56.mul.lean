/-! multiply. -/
def zcv (f g : Nat → Int64) (k : Nat) : Nat → Int64
  | 0 => 0
  | n + 1 => zcv f g k n + (if n ≤ k then f n * g (k - n) else 0)
theorem zcv_succ {f g : Nat → Int64} {k n : Nat} : zcv f g k (n + 1) = zcv f g k n + (if n ≤ k then f n * g (k - n) else 0) := rfl
theorem s_IS_multiply {r s t : Nat} {M : zM} {P : Int32 → zM → Prop} {X : Nat → zM → Prop} {f g : Nat → Int64} (hr : r < 4) (hs : s < 4) (ht : t < 4) (hf : ∀ i, i < 8 → f i = M (2 + s) i) (hg : ∀ i, i < 8 → g i = M (2 + t) i) (hg0 : ∀ i, 8 ≤ i → g i = 0) (k : ∀ Mc : zM, (∀ a, a ≠ 6 → Mc a = M a) → (∀ i, i < 16 → Mc 6 i = zcv f g i 8) → w_IS_keep (nI r) 6 Mc (fun r19 M20 => P r19 M20) (fun k M22 => X k M22)) : w_IS_multiply (nI r) (nI s) (nI t) M P X := by
  refine s_reg (fun _ => s_reg (fun _ => s_reg (fun _ => ?_) (fun h => absurd ⟨t, ht, rfl⟩ h)) (fun h => absurd ⟨s, hs, rfl⟩ h)) (fun h => absurd ⟨r, hr, rfl⟩ h)
  refine s_Ar_fillJ (n := 16) (by decide) (by decide) (by decide) (fun M0 f1 f2 => ?_)
  have key : ∀ d j (M1 : zM), j + d = 8 → (∀ a, a ≠ 6 → M1 a = M a) → (∀ i, i < 16 → M1 6 i = zcv f g i j) → L_IS_multiply_23 P X (nI r) (nI s) (nI t) (d + 1) (nI j) M1 := by
    intro d
    induction d with
    | zero =>
      intro j M1 hj h1 h2
      have : j = 8 := by omega
      subst this
      exact ⟨fun _ => k M1 h1 h2, fun h => absurd (by decide) h⟩
    | succ d ih =>
      intro j M1 hj h1 h2
      have inner : ∀ (K : Int32 → zM → Prop), (∀ M2 : zM, (∀ a, a ≠ 6 → M2 a = M a) → (∀ i, i < 16 → M2 6 i = zcv f g i (j + 1)) → K (nI (j + 1)) M2) → ∀ e i (M2 : zM), i + e = 8 → (∀ a, a ≠ 6 → M2 a = M a) → (∀ q, q < 16 → M2 6 q = zcv f g q j + (if j ≤ q ∧ q < j + i then f j * g (q - j) else 0)) → ∃ n, L_IS_multiply_33 P X K (nI r) (nI s) (nI t) (nI j) n (nI i) M2 := by
        intro K hK e
        induction e with
        | zero =>
          intro i M2 hi g1 g2
          have : i = 8 := by omega
          subst this
          refine ⟨1, ⟨fun _ => ?_, fun h => absurd (by decide) h⟩⟩
          rw [nI_1]
          refine hK M2 g1 (fun q hq => ?_)
          rw [g2 q hq, zcv_succ]
          congr 1
          by_cases a : j ≤ q
          · by_cases b : q < j + 8
            · rw [if_pos ⟨a, b⟩, if_pos a]
            · rw [if_neg (fun h => b h.2), if_pos a, hg0 (q - j) (by omega), Int64.mul_zero]
          · rw [if_neg (fun h => a h.1), if_neg a]
        | succ e ih2 =>
          intro i M2 hi g1 g2
          have hji : nI j + nI i = nI (j + i) := nI_add j i
          obtain ⟨n, hn⟩ := ih2 (i + 1) (zput M2 6 (j + i) (M2 6 (j + i) + f j * g i)) (by omega) (fun a ha => by rw [zput_ne ha]; exact g1 a ha) (fun q hq => by
            by_cases e : q = j + i
            · subst e
              rw [zput_eq, g2 _ hq, if_neg (fun h => by omega), if_pos ⟨by omega, by omega⟩, Int64.add_zero, show j + i - j = i by omega]
            · rw [zput_n2 e, g2 q hq]
              congr 1
              by_cases a : j ≤ q ∧ q < j + i
              · rw [if_pos a, if_pos ⟨a.1, by omega⟩]
              · rw [if_neg a, if_neg (fun h => a ⟨h.1, by omega⟩)])
          refine ⟨n + 1, ⟨fun h => absurd h (nI_ge (by omega) (by omega) : ¬ nI 8 ≤ nI i), fun _ => ?_⟩⟩
          rw [hji, nI_clamp (by omega), nI_clamp (by omega), nI_clamp (by omega), nI_clamp (by omega), nI_clamp (by omega)]
          have h6 : vp_in (nI (j + i)) (zlong 6) := vp_in_nI (by show j + i < 16; omega) (by decide)
          refine ⟨h6, z_gn hs, z_l8 hs (by omega), z_gn ht, z_l8 ht (by omega), h6, fun M3 e3 => ?_⟩
          rw [e3, nI_1, g1 (1 + 1 + s) (by omega), g1 (1 + 1 + t) (by omega)]
          rw [hf j (by omega), hg i (by omega)] at hn
          exact hn
      refine ⟨fun h => absurd h (nI_ge (by omega) (by omega) : ¬ nI 8 ≤ nI j), fun _ => ?_⟩
      refine inner _ (fun M2 x y => ih (j + 1) M2 (by omega) x y) 8 0 M1 rfl h1 (fun q hq => ?_)
      rw [h2 q hq, if_neg (fun h => by omega), Int64.add_zero]
  exact ⟨_, key 8 0 M0 rfl f1 (fun i hi => by rw [f2 i hi]; rfl)⟩
theorem zcv_stop {f g : Nat → Int64} {k n : Nat} (h : k < n) : ∀ m, n ≤ m → zcv f g k m = zcv f g k n := by
  intro m
  induction m with
  | zero => intro hm; omega
  | succ m ih =>
    intro hm
    by_cases e : n = m + 1
    · rw [e]
    · rw [zcv_succ, ih (by omega), if_neg (by omega), Int64.add_zero]
theorem s_Mo_multiply {r s t : Nat} {M : zM} {N : zN} {P : Int32 → zM → zN → Prop} (hr : r < 4) (hs : s < 4) (ht : t < 4) (k : ∀ (M' : zM) (N0 : zN), N0 = zpui N 99 0 0 → (∀ a, ¬ (104 ≤ a ∧ a ≤ 117) → M' a = M a) → (∀ i, i < 16 → M' 108 i = zcv (zld N s) (zld N t) i 8) → w_Mo_settle (nI r) 108 2 M' N0 (fun r17 N19 => P r17 M' N19)) : w_Mo_multiply (nI r) (nI s) (nI t) M N P := by
  refine s_isReg (fun _ => ⟨fun h => absurd h (by decide), fun _ => ?_⟩) (fun h => absurd ⟨r, hr, rfl⟩ h)
  refine s_isReg (fun _ => ⟨fun h => absurd h (by decide), fun _ => ?_⟩) (fun h => absurd ⟨s, hs, rfl⟩ h)
  refine s_isReg (fun _ => ⟨fun h => absurd h (by decide), fun _ => ?_⟩) (fun h => absurd ⟨t, ht, rfl⟩ h)
  intro N0 e0
  have hz : N0 99 0 = 0 := by rw [e0, zpui_eq]
  have hzl : ∀ q, zld N0 q = zld N q := fun q => by rw [e0]; unfold zld; rw [zpui_ne (by decide)]
  rw [hz]
  refine ⟨fun _ => ?_, fun h => absurd (by decide) h⟩
  refine s_Mo_load hs (by decide) (fun Ma a1 a2 => s_Mo_load ht (by decide) (fun Mb b1 b2 => ?_))
  have v6 : ∀ i, i < 16 → Mb 106 i = zld N s i := fun i hi => by rw [b1 106 (by decide), a2 i hi, hzl]
  have v7 : ∀ i, i < 16 → Mb 107 i = zld N t i := fun i hi => by rw [b2 i hi, hzl]
  have key : ∀ d j (M1 : zM), j + d = 16 → (∀ a, a ≠ 108 → M1 a = Mb a) → (∀ i, i < j → M1 108 i = zcv (zld N s) (zld N t) i 8) → L_Mo_multiply_60 P (nI r) N0 (d + 1) (nI j) M1 := by
    intro d
    induction d with
    | zero =>
      intro j M1 hj h1 h2
      have : j = 16 := by omega
      subst this
      exact ⟨fun _ => k M1 N0 e0 (fun a ha => by rw [h1 a (by omega), b1 a (by omega), a1 a (by omega)]) h2, fun h => absurd (by decide) h⟩
    | succ d ih =>
      intro j M1 hj h1 h2
      have hj8 : vp_in (nI j) (zlong 108) := vp_in_nI (by show j < 16; omega) (by decide)
      have inner : ∀ (K : Int32 → zM → Prop), (∀ M2 : zM, (∀ a, a ≠ 108 → M2 a = Mb a) → (∀ i, i < j + 1 → M2 108 i = zcv (zld N s) (zld N t) i 8) → K (nI (j + 1)) M2) → ∀ e i (M2 : zM), i + e = 8 → i ≤ j + 1 → (∀ a, a ≠ 108 → M2 a = Mb a) → (∀ q, q < j → M2 108 q = zcv (zld N s) (zld N t) q 8) → M2 108 j = zcv (zld N s) (zld N t) j i → ∃ n, L_Mo_multiply_78 P K (nI r) (nI j) N0 n (nI i) M2 := by
        intro K hK e
        induction e with
        | zero =>
          intro i M2 hi hij g1 g2 g3
          have : i = 8 := by omega
          subst this
          have hend : K (nI j + 1) M2 := by
            rw [nI_1]
            refine hK M2 g1 (fun q hq => ?_)
            by_cases e : q = j
            · rw [e]; exact g3
            · exact g2 q (by omega)
          exact ⟨1, ⟨fun _ => hend, fun _ => ⟨fun _ => hend, fun h => absurd (by decide) h⟩⟩⟩
        | succ e ih2 =>
          intro i M2 hi hij g1 g2 g3
          by_cases hc : i = j + 1
          · have hend : K (nI j + 1) M2 := by
              rw [nI_1]
              refine hK M2 g1 (fun q hq => ?_)
              by_cases e : q = j
              · rw [e, g3]; exact (zcv_stop (by omega) 8 (by omega)).symm
              · exact g2 q (by omega)
            exact ⟨1, ⟨fun _ => hend, fun h => absurd (nI_lt (by omega) (by omega)) h⟩⟩
          · obtain ⟨n, hn⟩ := ih2 (i + 1) (zput M2 108 j (M2 108 j + zld N s i * zld N t (j - i))) (by omega) (by omega) (fun a ha => by rw [zput_ne ha]; exact g1 a ha) (fun q hq => by rw [zput_n2 (by omega)]; exact g2 q hq) (by rw [zput_eq, g3, zcv_succ, if_pos (by omega)])
            refine ⟨n + 1, ⟨fun h => absurd h (nI_nlt (by omega) (by omega)), fun _ => ⟨fun h => absurd h (nI_ge (by omega) (by omega) : ¬ nI 8 ≤ nI i), fun _ => ?_⟩⟩⟩
            rw [pk_sub (by omega), nI_clamp (by omega), nI_clamp (by omega), nI_clamp (by omega)]
            refine ⟨hj8, vp_in_nI (by show i < 16; omega) (by decide), vp_in_nI (by show j - i < 16; omega) (by decide), hj8, fun M3 e3 => ?_⟩
            rw [e3, nI_1, g1 106 (by decide), g1 107 (by decide), v6 i (by omega), v7 (j - i) (by omega)]
            exact hn
      refine ⟨fun h => absurd h (nI_ge (by omega) (by omega) : ¬ nI 16 ≤ nI j), fun _ => ⟨hj8, fun M2 e2 => ?_⟩⟩
      rw [nI_clamp (by omega)] at e2
      refine inner _ (fun M3 x y => ih (j + 1) M3 (by omega) x y) 8 0 M2 rfl (by omega) (fun a ha => by rw [e2, zput_ne ha]; exact h1 a ha) (fun q hq => by rw [e2, zput_n2 (by omega)]; exact h2 q hq) (by rw [e2, zput_eq]; rfl)
  exact ⟨_, key 16 0 Mb rfl (fun _ _ => rfl) (fun i hi => by omega)⟩
theorem u_multiply {a1 a2 a3 : Int32} {M : zM} {N : zN} {K : zM → zN → Prop} {Q : Int32 → zM → Prop} (hI : zreg M N) (hk : ∀ M' N', zreg M' N' → zkp M N M' N' → K M' N') (hQ : ∀ q M1, w_Mo_multiply a1 a2 a3 M1 N (fun r4 M5 N6 => zth K q r4 M5 N6) → Q q M1) : w_La_multiply a1 a2 a3 M Q := by
  by_cases h : zR a1 4 ∧ zR a2 4 ∧ zR a3 4
  · obtain ⟨⟨r, hr, rfl⟩, ⟨s, hs, rfl⟩, ⟨t, ht, rfl⟩⟩ := h
    refine s_IS_multiply (f := zld N s) (g := zld N t) hr hs ht (fun i hi => z_ld hI hs hi) (fun i hi => z_ld hI ht hi) (fun i hi => z_ld0 hi) (fun Mc c1 c2 => ?_)
    refine z_end (a2 := 108) hr (by decide) (by decide) hI hk (fun a ha => c1 a (by omega)) (fun q M2 _ hW => hQ _ _ (s_Mo_multiply hr hs ht (fun M' N0 e0 m1 m2 => hW M' N0 m1 (fun i hi => ?_) e0)))
    rw [m2 i hi, c2 i hi]
  · have hb : Q 1 M := by
      refine hQ _ _ ?_
      have hJ : J_Mo_multiply_27 (fun r4 M5 N6 => zth K 1 r4 M5 N6) a1 a2 a3 1 M N := fun N4 e => by
        subst e
        rw [zpui_eq]
        exact ⟨fun h => absurd h (by decide), fun _ => z_th zpui_eq (fun h => absurd h (by decide)) (hk _ _ (z_reg0 hI 1) (z_kp0 1))⟩
      refine s_isReg (fun h1 => ⟨fun h => absurd h (by decide), fun _ => ?_⟩) (fun _ => ⟨fun _ => hJ, fun h => absurd rfl h⟩)
      refine s_isReg (fun h2 => ⟨fun h => absurd h (by decide), fun _ => ?_⟩) (fun _ => ⟨fun _ => hJ, fun h => absurd rfl h⟩)
      exact s_isReg (fun h3 => absurd ⟨h1, h2, h3⟩ h) (fun _ => ⟨fun _ => hJ, fun h => absurd rfl h⟩)
    have hX : (1 = 1 → Q 1 M) ∧ (1 = 3 → Q 2 M) ∧ (1 = 1 ∨ 1 = 3) := ⟨fun _ => hb, fun h => absurd h (by decide), Or.inl rfl⟩
    exact s_reg (fun h1 => s_reg (fun h2 => s_reg (fun h3 => absurd ⟨h1, h2, h3⟩ h) (fun _ => hX)) (fun _ => hX)) (fun _ => hX)
