/-! productInto and multiplyBy. -/
def tl (k : Nat) (A : Pl) : Pl := ⟨fun i => A.1 (i + k), by
  obtain ⟨n, h⟩ := A.2
  exact ⟨n, fun i hi => h (i + k) (by omega)⟩⟩
theorem ev_tl (k : Nat) (A : Pl) (x : Int) : ev (tl k A) x = A.1 k + x * ev (tl (k + 1) A) x := by
  rw [ev_D (tl k A) x]
  have e : plD (tl k A) = tl (k + 1) A := pl_ext (fun i => by
    show A.1 (i + 1 + k) = A.1 (i + (k + 1))
    rw [show i + 1 + k = i + (k + 1) by omega])
  rw [e]
  show A.1 (0 + k) + _ = _
  rw [Nat.zero_add]
theorem tl_0 (A : Pl) : tl 0 A = A := pl_ext (fun _ => rfl)
theorem s_prod34 {K : zM → Prop} {k17 : Int32 → zM → Prop} {a0 a1 a2 a3 n kk P : Nat} {M : zM} (h0 : zlong a0 = 8) (h1 : zlong a1 = 8) (h3 : zlong a3 = 8) (n03 : a0 ≠ a3) (n13 : a1 ≠ a3) (hn : n < 8) (hk : kk < 8) (p0 : 0 < P) (p1 : P < 2 ^ 31) (ra : zrw P 8 (M a0)) (rb : zrw P 8 (M a1)) (rc : zrw P 8 (M a3))
    (q : ∀ M' : zM, (∀ a, a ≠ a3 → M' a = M a) → (∀ i, i < n → (M' a3 i).toInt = ((M a3 i).toInt + (M a0 kk).toInt * (M a1 i).toInt) % P) → (∀ i, n ≤ i → M' a3 i = M a3 i) → k17 (nI kk + (-1)) M') : ∃ f, L_Re_productInto_34 K k17 a0 a1 a2 a3 (lN P) (nI n) (nI kk) f (0 : Int32) M := by
  obtain ⟨q1, q2, q3, q4⟩ := z_lNp p0 p1
  have key : ∀ d j (M1 : zM), j + d = n → (∀ a, a ≠ a3 → M1 a = M a) → (∀ i, i < j → (M1 a3 i).toInt = ((M a3 i).toInt + (M a0 kk).toInt * (M a1 i).toInt) % P) → (∀ i, j ≤ i → M1 a3 i = M a3 i) → ∃ f, L_Re_productInto_34 K k17 a0 a1 a2 a3 (lN P) (nI n) (nI kk) f (nI j) M1 := by
    intro d
    induction d with
    | zero =>
      intro j M1 hj g1 g2 g3
      have : j = n := by omega
      subst this
      exact ⟨1, ⟨fun _ => q M1 g1 g2 g3, fun e => absurd (Int32.le_refl _) e⟩⟩
    | succ d ih =>
      intro j M1 hj g1 g2 g3
      have x0 := ra kk hk
      have x1 := rb j (by omega)
      have x3 := rc j (by omega)
      obtain ⟨m1, m2, m3⟩ := z_mulp p1 x0.1 x0.2 x1.1 x1.2
      have ea : (M a3 j + M a0 kk * M a1 j).toInt = (M a3 j).toInt + (M a0 kk).toInt * (M a1 j).toInt := by
        rw [zx_add (by rw [m1]; omega) (by rw [m1]; omega), m1]
      obtain ⟨f, hf⟩ := ih (j + 1) (zput M1 a3 j (zrs (M a3 j + M a0 kk * M a1 j) (lN P))) (by omega) (fun a x => by rw [zput_ne x]; exact g1 a x) (fun i hi => by
        by_cases c : i = j
        · subst c; rw [zput_eq, zrs_e q2 (by rw [ea]; omega), ea, q1]
        · rw [zput_n2 c]; exact g2 i (by omega)) (fun i hi => by rw [zput_n2 (by omega)]; exact g3 i (by omega))
      have i3 : vp_in (nI j) (zlong a3) := by rw [h3]; exact vp_in_nI (by omega) (by decide)
      refine ⟨f + 1, ⟨fun e => absurd e (nI_ge (by omega) (by omega)), fun _ => ?_⟩⟩
      rw [nI_clamp (by omega), nI_clamp (by omega), nI_1, g3 j (Nat.le_refl _), g1 a0 n03, g1 a1 n13]
      refine ⟨i3, by rw [h0]; exact vp_in_nI hk (by decide), by rw [h1]; exact vp_in_nI (by omega) (by decide), s_residue q3 ⟨i3, fun M16 e16 => ?_⟩⟩
      rw [e16]
      exact hf
  exact key n 0 M (by omega) (fun _ _ => rfl) (fun i hi => absurd hi (Nat.not_lt_zero _)) (fun _ _ => rfl)
theorem s_productInto {K : zM → Prop} {a0 a1 a2 a3 n P : Nat} {M : zM} (h0 : zlong a0 = 8) (h1 : zlong a1 = 8) (h2 : zlong a2 = 8) (h3 : zlong a3 = 8) (n03 : a0 ≠ a3) (n13 : a1 ≠ a3) (n23 : a2 ≠ a3) (hn1 : 1 ≤ n) (hn : n < 8) (p0 : 1 < P) (p1 : P < 2 ^ 31) (ra : zrw P 8 (M a0)) (rb : zrw P 8 (M a1)) (rf : zrw P 8 (M a2)) (hf : mon (prP 8 (M a2)) n)
    (k : ∀ M' : zM, (∀ a, a ≠ a3 → M' a = M a) → zrw P 8 (M' a3) → (∀ i, n ≤ i → i < 8 → M' a3 i = 0) → dvp (P : Int) (prP 8 (M a2)) (plS (prP 8 (M' a3)) (plM (prP 8 (M a0)) (cut (pr 8 (M a1)) 0 n))) → K M') : w_Re_productInto a0 a1 a2 a3 (lN P) M K := by
  refine s_Ar_fillJ (n := 8) h3 (by decide) (by decide) (fun M2 f1 f2 => s_Ro_degreeOf h2 (by decide) (by decide) (s_Ro_degreeOf h0 (by decide) (by decide) ?_))
  rw [f1 a2 n23, f1 a0 n03, mon_zdg hn hf, pk_m1]
  have key : ∀ t (M1 : zM), t ≤ 8 → (∀ a, a ≠ a3 → M1 a = M a) → zrw P 8 (M1 a3) → (∀ i, n ≤ i → i < 8 → M1 a3 i = 0) → dvp (P : Int) (prP 8 (M a2)) (plS (prP 8 (M1 a3)) (plM (tl t (prP 8 (M a0))) (cut (pr 8 (M a1)) 0 n))) → L_Re_productInto_17 K a0 a1 a2 a3 (lN P) (nI n) (t + 1) (nI t + (-1)) M1 := by
    intro t
    induction t with
    | zero =>
      intro M1 _ g1 g2 g3 g4
      rw [tl_0] at g4
      exact ⟨fun _ => k M1 g1 g2 g3 g4, fun e => absurd (by decide) e⟩
    | succ t ih =>
      intro M1 ht g1 g2 g3 g4
      rw [pk_m1]
      have e2 : M1 a2 = M a2 := g1 a2 n23
      refine ⟨fun e => absurd e (nI_pos (by omega)), fun _ => s_timesX h3 h2 (fun e => n23 e.symm) hn1 hn (by omega) p1 g2 (by rw [e2]; exact rf) (fun M3 f3 f4 f5 f6 => ?_)⟩
      rw [e2] at f4 f5
      have r3 : zrw P 8 (M3 a3) := fun i hi => by
        by_cases c0 : i = 0
        · rw [c0, f5]; exact z_emod (by omega) _
        · by_cases c : i < n
          · rw [f4 i (by omega) c]; exact z_emod (by omega) _
          · rw [f6 i (by omega)]; exact g2 i hi
      have e0 : M3 a0 = M a0 := by rw [f3 a0 n03]; exact g1 a0 n03
      have e1 : M3 a1 = M a1 := by rw [f3 a1 n13]; exact g1 a1 n13
      refine s_prod34 h0 h1 h3 n03 n13 hn (by omega) (by omega) p1 (by rw [e0]; exact ra) (by rw [e1]; exact rb) r3 (fun M4 f7 f8 f9 => ?_)
      rw [e0, e1] at f8
      have z4 : ∀ i, n ≤ i → i < 8 → M4 a3 i = 0 := fun i a b => by rw [f9 i a, f6 i a]; exact g3 i a b
      refine ih M4 (by omega) (fun a x => by rw [f7 a x, f3 a x]; exact g1 a x) (fun i hi => ?_) z4 ?_
      · by_cases c : i < n
        · rw [f8 i c]; exact z_emod (by omega) _
        · rw [f9 i (by omega)]; exact r3 i hi
      · have a1' := timesX_dvp hn1 hn hf f4 f5 f6 g3
        have a2' : dvp (P : Int) (prP 8 (M a2)) (plM (plX 1 1) (plS (prP 8 (M1 a3)) (plM (tl (t + 1) (prP 8 (M a0))) (cut (pr 8 (M a1)) 0 n)))) := dvp_Ml g4
        have c4 : cg (P : Int) (prP 8 (M4 a3)) (plA (prP 8 (M3 a3)) (plK ((prP 8 (M a0)).1 t) (cut (pr 8 (M a1)) 0 n))) := cg_of (fun i => by
          show (P : Int) ∣ pr 8 (M4 a3) i - (pr 8 (M3 a3) i + pr 8 (M a0) t * (if i < n then pr 8 (M a1) (0 + i) else 0))
          rcases Nat.lt_or_ge i 8 with c8 | c8
          · rw [pr_lt c8, pr_lt c8, pr_lt (by omega : t < 8)]
            by_cases c : i < n
            · rw [if_pos c, Nat.zero_add, pr_lt c8, f8 i c]; exact mod_dvd _ _
            · rw [if_neg c, f9 i (by omega), Int.mul_zero]; exact ⟨0, by rw [Int.mul_zero]; omega⟩
          · rw [pr_ge c8, pr_ge c8, if_neg (by omega), Int.mul_zero]; exact ⟨0, by rw [Int.mul_zero]; rfl⟩)
        refine dvp_cg (dvp_A a1' a2') (cg_trans (cg_S c4 cg_refl) (cg_eq (fun x => ?_)))
        simp only [ev_S, ev_A, ev_M, ev_U, ev_K, ev_X]
        rw [ev_tl t (prP 8 (M a0)) x]
        have hx : x ^ 1 = x := by rw [Int.pow_succ, Int.pow_zero, Int.one_mul]
        rw [hx]
        generalize ev (prP 8 (M3 a3)) x = A
        generalize ev (prP 8 (M1 a3)) x = B
        generalize ev (tl (t + 1) (prP 8 (M a0))) x = C
        generalize ev (cut (pr 8 (M a1)) 0 n) x = D
        generalize (prP 8 (M a0)).1 t = E
        grind
  have le8 := zdg_le (M a0) 8
  refine ⟨zdg (M a0) 8 + 1, key (zdg (M a0) 8) M2 le8 f1 (fun i hi => by rw [f2 i hi]; exact ⟨by decide, by show (0 : Int) < _; omega⟩) (fun i _ b => f2 i b) (dvp_0 (fun i => ?_))⟩
  have t0 : ∀ i, (tl (zdg (M a0) 8) (prP 8 (M a0))).1 i = 0 := fun i => by
    show pr 8 (M a0) (i + zdg (M a0) 8) = 0
    rcases Nat.lt_or_ge (i + zdg (M a0) 8) 8 with c | c
    · rw [pr_lt c]
      rcases Nat.eq_zero_or_pos (zdg (M a0) 8) with e | e
      · rw [zdg_0 e _ c]; rfl
      · obtain ⟨_, _, g6⟩ := zdg_s (f := M a0) (n := 8) (d := zdg (M a0) 8 - 1) (by omega)
        rw [g6 _ (by omega) c]; rfl
    · exact pr_ge c
  show (P : Int) ∣ pr 8 (M2 a3) i - pmul (tl (zdg (M a0) 8) (prP 8 (M a0))).1 (cut (pr 8 (M a1)) 0 n).1 i
  rw [pmul_z t0]
  have : pr 8 (M2 a3) i = 0 := by
    rcases Nat.lt_or_ge i 8 with c | c
    · rw [pr_lt c, f2 i c]; rfl
    · exact pr_ge c
  rw [this]
  exact ⟨0, by rw [Int.mul_zero]; rfl⟩
theorem s_multiplyBy {K : zM → Prop} {a0 a1 h P : Nat} {M : zM} (z0 : zlong a0 = 8) (z1 : zlong a1 = 8) (n01 : a0 ≠ a1) (hh : zdg (M a1) 8 = h + 1) (p0 : 0 < P) (p1 : P ≤ 2 ^ 29) (ba : ∀ i, i < 8 → 0 ≤ (M a0 i).toInt ∧ (M a0 i).toInt < 536870912) (bb : ∀ i, i < 8 → 0 ≤ (M a1 i).toInt ∧ (M a1 i).toInt < 536870912)
    (k : ∀ M' : zM, (∀ a, a ≠ a0 → M' a = M a) → (∀ i, i < 8 → (M' a0 i).toInt = (pmul (pr 8 (M a1)) (pr 8 (M a0)) i) % P) → K M') : w_Re_multiplyBy a0 a1 (lN P) M K := by
  obtain ⟨q1, q2, q3, q4⟩ := z_lNp (P := P) p0 (by omega)
  obtain ⟨g1, g2, g3⟩ := zdg_s hh
  have hz : ∀ i, h < i → pr 8 (M a1) i = 0 := fun i hi => by
    rcases Nat.lt_or_ge i 8 with c | c
    · rw [pr_lt c, g3 i hi c]; rfl
    · exact pr_ge c
  refine s_Ro_degreeOf z1 (by decide) (by decide) ?_
  rw [hh, pk_m1]
  have key : ∀ t (M1 : zM), t ≤ 8 → (∀ a, a ≠ a0 → M1 a = M a) → (∀ i, i < t → M1 a0 i = M a0 i) → (∀ i, t ≤ i → i < 8 → (M1 a0 i).toInt = (pmul (pr 8 (M a1)) (pr 8 (M a0)) i) % P) → L_Re_multiplyBy_10 K a0 a1 (lN P) (nI h) (t + 1) (nI t + (-1)) M1 := by
    intro t
    induction t with
    | zero =>
      intro M1 _ f1 f2 f3
      exact ⟨fun _ => k M1 f1 (fun i hi => f3 i (Nat.zero_le _) hi), fun e => absurd (by decide) e⟩
    | succ t ih =>
      intro M1 ht f1 f2 f3
      rw [pk_m1]
      have ea1 : M1 a1 = M a1 := f1 a1 (fun e => n01 e.symm)
      -- the terms of the sum
      let F : Nat → Int := fun l => pr 8 (M a1) l * pr 8 (M a0) (t - l)
      have hF : ∀ l, l ≤ t → 0 ≤ F l ∧ F l ≤ 288230375077969921 := fun l hl => by
        show 0 ≤ pr 8 (M a1) l * pr 8 (M a0) (t - l) ∧ pr 8 (M a1) l * pr 8 (M a0) (t - l) ≤ 288230375077969921
        rw [pr_lt (by omega), pr_lt (by omega)]
        have x := bb l (by omega)
        have y := ba (t - l) (by omega)
        refine ⟨Int.mul_nonneg x.1 y.1, ?_⟩
        have : (M a1 l).toInt * (M a0 (t - l)).toInt ≤ 536870911 * 536870911 := Int.mul_le_mul (by omega) (by omega) y.1 (by omega)
        omega
      have hS : ∀ j, j ≤ t + 1 → 0 ≤ psum F j ∧ psum F j ≤ j * 288230375077969921 := by
        intro j
        induction j with
        | zero => intro _; exact ⟨by show (0 : Int) ≤ 0; decide, by show (0 : Int) ≤ _; omega⟩
        | succ j ihj =>
          intro hj
          have a := ihj (by omega)
          have b := hF j (by omega)
          show 0 ≤ psum F j + F j ∧ psum F j + F j ≤ _
          have : ((j + 1 : Nat) : Int) = (j : Int) + 1 := rfl
          rw [this]
          omega
      have htot : pmul (pr 8 (M a1)) (pr 8 (M a0)) t = psum F (t + 1) := rfl
      have sumv : ∀ j (acc : Int64), j ≤ t + 1 → acc.toInt = psum F (t + 1) - psum F j → ∃ f, L_Re_multiplyBy_34 K (L_Re_multiplyBy_10 K a0 a1 (lN P) (nI h) (t + 1)) a0 a1 (lN P) (nI h) (nI t) M1 f acc (nI j + (-1)) := by
        intro j
        induction j with
        | zero =>
          intro acc _ hacc
          have ht1 := hS (t + 1) (Nat.le_refl _)
          have hacc' : acc.toInt = psum F (t + 1) := by
            have : psum F 0 = 0 := rfl
            omega
          refine ⟨1, ⟨fun _ => s_residue q3 ⟨by rw [z0]; exact vp_in_nI (by omega) (by decide), fun M7 e7 => ?_⟩, fun e => absurd (by decide) e⟩⟩
          rw [nI_clamp (by omega)] at e7
          rw [e7]
          have b8 : ((t + 1 : Nat) : Int) * 288230375077969921 ≤ 8 * 288230375077969921 := Int.mul_le_mul_of_nonneg_right (by omega) (by decide)
          refine ih _ (by omega) (fun a x => by rw [zput_ne x]; exact f1 a x) (fun i hi => by rw [zput_n2 (by omega)]; exact f2 i (by omega)) (fun i a b => ?_)
          by_cases c : i = t
          · rw [c, zput_eq, zrs_e q2 (by rw [hacc']; omega), hacc', q1, htot]
          · rw [zput_n2 c]; exact f3 i (by omega) b
        | succ j ihj =>
          intro acc hj hacc
          have hFj := hF j (by omega)
          have s1 := hS j (by omega)
          have s2' := hS (t + 1) (Nat.le_refl _)
          have b8 : ((t + 1 : Nat) : Int) * 288230375077969921 ≤ 8 * 288230375077969921 := Int.mul_le_mul_of_nonneg_right (by omega) (by decide)
          have e1 : psum F (j + 1) = psum F j + F j := rfl
          have em : (M a0 (t - j) * M a1 j).toInt = F j := by
            have x := bb j (by omega)
            have y := ba (t - j) (by omega)
            have hFe : F j = (M a1 j).toInt * (M a0 (t - j)).toInt := by
              show pr 8 (M a1) j * pr 8 (M a0) (t - j) = _
              rw [pr_lt (by omega), pr_lt (by omega)]
            rw [hFe] at hFj
            rw [zx_mul (by rw [Int.mul_comm]; omega) (by rw [Int.mul_comm]; omega), hFe, Int.mul_comm]
          obtain ⟨f, hf⟩ := ihj (acc + M a0 (t - j) * M a1 j) (by omega) (by
            rw [zx_add (by rw [em, hacc]; omega) (by rw [em, hacc]; omega), em, hacc]
            omega)
          refine ⟨f + 1, ?_⟩
          rw [pk_m1]
          refine ⟨fun e => absurd e (nI_pos (by omega)), fun _ => ?_⟩
          rw [pk_sub (by omega), nI_clamp (by omega), nI_clamp (by omega), f2 (t - j) (by omega), ea1]
          refine ⟨by rw [z0]; exact vp_in_nI (by omega) (by decide), by rw [z1]; exact vp_in_nI (by omega) (by decide), fun x8 e8 => ?_⟩
          rw [e8]
          exact hf
      refine ⟨fun e => absurd e (nI_pos (by omega)), fun _ => ⟨fun e => ?_, fun e => ?_⟩⟩
      · rw [nI_leI (by omega) (by omega)] at e
        have := sumv (h + 1) 0 (by omega) (by
          show (0 : Int) = _
          have e1 : psum F (t + 1) = psum F (h + 1) := psum_up (fun l hl => by
            show pr 8 (M a1) l * _ = 0
            rw [hz l (by omega), Int.zero_mul]) (by omega)
          omega)
        rw [pk_m1] at this
        exact this
      · have := sumv (t + 1) 0 (Nat.le_refl _) (by show (0 : Int) = _; omega)
        rw [pk_m1] at this
        exact this
  exact ⟨9, key 8 M (Nat.le_refl _) (fun _ _ => rfl) (fun _ _ => rfl) (fun i a b => by omega)⟩
