/-! value, shift. -/
def zthL (K : zM → zN → Prop) (r1 : Int32) (r4 : Int64) (M : zM) (N : zN) : Prop := w_Mo_thrown N (fun r7 => (r7 = r1 → (¬ r1 = 0 → K M N) ∧ (r1 = 0 → vp_in (0 : Int32) (zlong 119) ∧ ((M 119 (0 : Int32).toNatClampNeg) = r4 → K M N) ∧ (¬ (M 119 (0 : Int32).toNatClampNeg) = r4 → False))) ∧ (¬ r7 = r1 → False))
theorem z_thL {K : zM → zN → Prop} {r1 : Int32} {r4 : Int64} {M : zM} {N : zN} (h : N 99 0 = r1) (h2 : r1 = 0 → M 119 0 = r4) (hk : K M N) : zthL K r1 r4 M N :=
  ⟨fun _ => ⟨fun _ => hk, fun e => ⟨z_o119, fun _ => hk, fun g => g (h2 e)⟩⟩, fun g => g h⟩
theorem s_Mo_value {a1 a2 : Int32} {N : zN} {P : Int64 → zN → Prop} (bad : ¬ zR a1 4 → P 0 (zpui N 99 0 1)) (bad2 : zR a1 4 → ¬ znr a2 → P 0 (zpui N 99 0 2)) (good : ∀ r, r < 4 → a1 = nI r → znr a2 → P (zhv (zld N r) a2.toInt64 8 0) (zpui N 99 0 0)) : w_Mo_value a1 a2 N P := by
  have hb : ∀ (t : Int32), ¬ t = 0 → P 0 (zpui N 99 0 t) → ∀ N4 : zN, N4 = zpui N 99 0 t → ∃ n, L_Mo_value_38 P a1 a2 N4 n (0 : Int64) (7 : Int32) := by
    intro t ht hP N4 e
    refine ⟨1, ⟨fun h => absurd h (by decide), fun _ => ⟨fun _ => by rw [e]; exact hP, fun h => absurd (by rw [e, zpui_eq] at h; exact h) ht⟩⟩⟩
  refine s_isReg (fun h1 => ⟨fun _ => ?_, fun h => absurd h (by decide)⟩) (fun h1 => ⟨fun h => absurd rfl h, fun _ => hb 1 (by decide) (bad h1)⟩)
  refine ⟨fun g => hb 2 (by decide) (bad2 h1 (fun h => h.1 g)), fun g => ⟨fun g2 => ?_, fun g2 => hb 2 (by decide) (bad2 h1 (fun h => g2 h.2))⟩⟩
  intro N5 e5
  obtain ⟨r, hr, rfl⟩ := h1
  have hg := good r hr rfl ⟨g, g2⟩
  rw [← e5] at hg
  have hz : N5 99 0 = 0 := by rw [e5, zpui_eq]
  have h100 : N5 100 = N 100 := by rw [e5, zpui_ne (by decide)]
  have key : ∀ j x, j ≤ 8 → zhv (zld N r) a2.toInt64 j x = zhv (zld N r) a2.toInt64 8 0 → ∃ n, L_Mo_value_38 P (nI r) a2 N5 n x (nI j + (-1)) := by
    intro j
    induction j with
    | zero =>
      intro x _ hx
      refine ⟨1, ⟨fun _ => ?_, fun h => absurd (by decide) h⟩⟩
      rw [← hx] at hg
      exact hg
    | succ j ih =>
      intro x hj hx
      obtain ⟨n, hn⟩ := ih (x * a2.toInt64 + zld N r j) (by omega) hx
      refine ⟨n + 1, ?_⟩
      rw [pk_m1]
      refine ⟨fun h => absurd h (nI_pos (by omega)), fun _ => ⟨fun h => absurd hz h, fun _ => ?_⟩⟩
      rw [z_ix hr (by omega), nI_clamp (by omega)]
      refine ⟨vp_in_nI (by show 8 * r + j < 32; omega) (by decide), fun x1 e => ?_⟩
      have e9 : zld N r j = (N 100 (8 * r + j)).toInt64 := by unfold zld; rw [if_pos (by omega)]
      rw [e, h100, ← e9]; exact hn
  exact key 8 0 (by decide) rfl
theorem u_value {a1 a2 : Int32} {M : zM} {N : zN} {K : zM → zN → Prop} {Q : Int32 → zM → Prop} (hI : zreg M N) (hk : ∀ M' N', zreg M' N' → zkp M N M' N' → K M' N') (hQ : ∀ q M1, w_Mo_value a1 a2 N (fun r4 N6 => zthL K q r4 M1 N6) → Q q M1) : w_La_value a1 a2 M Q := by
  refine s_La_value (fun h => hQ _ _ (s_Mo_value (fun _ => z_thL zpui_eq (fun h => absurd h (by decide)) (hk _ _ (z_reg0 hI 1) (z_kp0 1))) (fun h' => absurd h' h) (fun r hr e1 => absurd ⟨r, hr, e1⟩ h))) (fun h g => hQ _ _ (s_Mo_value (fun h' => absurd h h') (fun _ _ => z_thL zpui_eq (fun h => absurd h (by decide)) (hk _ _ (z_reg0 hI 2) (z_kp0 2))) (fun r hr e1 g' => absurd g' g))) (fun r hr e1 g M1 f1 => hQ _ _ (s_Mo_value (fun h => absurd ⟨r, hr, e1⟩ h) (fun _ g' => absurd g g') (fun r' hr' e1' g' => ?_)))
  have hr1 : r = r' := (nI_eq (by omega) (by omega)).mp (e1.symm.trans e1')
  subst hr1 f1
  exact z_thL zpui_eq (fun _ => by rw [zput_eq]; exact zhv_congr 8 0 (fun i hi => (z_ld hI hr hi).symm)) (hk _ _ (z_reg119 (z_reg0 hI 0) _ _) (z_kp119 (z_kp0 0) _ _))
/-- the joined end with the code cc for what does not fit -/
theorem z_endX {K : zM → zN → Prop} {Q : Int32 → zM → Prop} {X : Nat → zM → Prop} {cc : Int32} {r a2 c n : Nat} {M Mc : zM} {N : zN} (hr : r < 4) (hzc : zlong c = n) (h8 : 8 ≤ n) (hn : n < 100) (hz : zlong a2 = 16) (hcc : ¬ cc ≤ 0) (hI : zreg M N) (hk : ∀ M' N', zreg M' N' → zkp M N M' N' → K M' N') (hMc : ∀ a, ¬ (6 ≤ a ∧ a ≤ 78) → Mc a = M a) (hX : Q cc Mc → X 3 Mc)
    (hW : ∀ (q : Int32) (M2 : zM), (∀ a, ¬ (2 ≤ a ∧ a ≤ 5 ∨ a = 119) → M2 a = Mc a) → (∀ M' N0, (∀ a, ¬ (104 ≤ a ∧ a ≤ 117) → M' a = M2 a) → (∀ i, i < 8 → M' a2 i = Mc c i) → (zfit (Mc c) n ↔ zfit (M' a2) 16) → N0 = zpui N 99 0 0 → w_Mo_settle (nI r) a2 cc M' N0 (fun r17 N19 => zth K q r17 M' N19)) → Q q M2) :
    w_IS_keep (nI r) c Mc (fun r1 M2 => vp_in (0 : Int32) (zlong 119) ∧ ∀ M4 : zM, M4 = zput M2 119 (0 : Int32).toNatClampNeg r1.toInt64 → Q 0 M4) X := by
  refine s_keep hr hzc h8 hn (fun hF M1 e => ⟨z_o119, fun M2 e4 => ?_⟩) (fun hF => hX ?_)
  · have hd : zdg (M1 (2 + r)) 8 = zdg (Mc c) 8 := by
      refine zdg_congr (fun i hi => ?_)
      rw [e, zcpy8 hi]
    have e2 : M2 = zput (zcpy Mc c (2 + r) 0 0 8) 119 0 (nI (zdg (Mc c) 8) + (-1)).toInt64 := by
      rw [e4, hd, e]; rfl
    refine hW _ _ (fun a ha => by rw [e2, zput_ne (by omega), zcpy_ne (by omega)]) (fun M' N0 hM' he hiff e0 => s_Mo_settle hr hz hcc (fun hF2 N' n0 n1 n2 n3 n4 => ?_) (fun hF2 => absurd (hiff.mp hF) hF2))
    subst e0
    obtain ⟨j1, j2, j3⟩ := z_join hr hI h8 hMc hF e2 hM' he hF2 (N := N) (fun j hj => by rw [n1 j hj, zpui_n2 hj]) (fun a x y => by rw [n2 a x y, zpui_ne x]) n3 (fun q hq => by rw [n4 q hq, zpui_ne (by decide)])
    exact z_th n0 (fun _ => j3) (hk _ _ j1 j2)
  · refine hW _ _ (fun _ _ => rfl) (fun M' N0 hM' he hiff e0 => s_Mo_settle hr hz hcc (fun hF2 => absurd (hiff.mpr hF2) hF) (fun hF2 => ?_))
    have e1 : zpui N0 99 0 cc = zpui N 99 0 cc := by
      subst e0
      funext a j
      unfold zpui
      split <;> rfl
    rw [e1]
    obtain ⟨j1, j2⟩ := z_joinX hI hMc hM' cc
    exact z_th zpui_eq (fun h => absurd (by rw [h]; decide) hcc) (hk _ _ j1 j2)
/-- the shifted row after t rounds -/
def zsh (f : Nat → Int64) (a : Int64) : Nat → Nat → Int64
  | 0, _ => 0
  | t + 1, 0 => zsh f a t 0 * a + f (7 - t)
  | t + 1, i + 1 => zsh f a t (i + 1) * a + zsh f a t i
theorem zsh_0 {f : Nat → Int64} {a : Int64} : ∀ t i, t ≤ i → zsh f a t i = 0
  | 0, _, _ => rfl
  | t + 1, 0, h => by omega
  | t + 1, i + 1, h => by
    unfold zsh
    rw [zsh_0 t (i + 1) (by omega), zsh_0 t i (by omega), Int64.zero_mul, Int64.add_zero]
