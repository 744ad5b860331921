/-! The reference's Euclid. -/
theorem s_Mo_red35 {K : zM → Prop} {k15 : Int32 → zM → Prop} {a0 a1 k n : Nat} {c p v5 : Int64} {M : zM} (h0 : zlong a0 = 16) (h1 : zlong a1 = 16) (hne : a1 ≠ a0) (hkn : k ≤ n) (hn : n < 16) (hp : ¬ p = 0) (q : ∀ M' : zM, (∀ a, a ≠ a0 → M' a = M a) → (∀ i, M' a0 i = if n - k ≤ i ∧ i ≤ n then zrs (M a0 i - ((c * M a1 (i - (n - k))) - (c * M a1 (i - (n - k))) / p * p)) p else M a0 i) → w_Mo_degreeOf a0 M' (fun r8 => k15 r8 M')) : ∃ f, L_Mo_reduce_35 K k15 a0 a1 (nI k) p v5 (nI n) c f (0 : Int32) M := by
  have key : ∀ d j (M1 : zM), j + d = k + 1 → (∀ a, a ≠ a0 → M1 a = M a) → (∀ i, M1 a0 i = if n - k ≤ i ∧ i < n - k + j then zrs (M a0 i - ((c * M a1 (i - (n - k))) - (c * M a1 (i - (n - k))) / p * p)) p else M a0 i) → ∃ f, L_Mo_reduce_35 K k15 a0 a1 (nI k) p v5 (nI n) c f (nI j) M1 := by
    intro d
    induction d with
    | zero =>
      intro j M1 hj g1 g2
      have : j = k + 1 := by omega
      subst this
      refine ⟨1, ⟨fun _ => q M1 g1 (fun i => ?_), fun h => absurd (nI_lt (by omega) (by omega)) h⟩⟩
      rw [g2 i]
      by_cases e : n - k ≤ i ∧ i ≤ n
      · rw [if_pos e, if_pos ⟨e.1, by omega⟩]
      · rw [if_neg e, if_neg (fun h => e ⟨h.1, by omega⟩)]
    | succ d ih =>
      intro j M1 hj g1 g2
      obtain ⟨f, hf⟩ := ih (j + 1) (zput M1 a0 (n - k + j) (zrs (M1 a0 (n - k + j) - ((c * M a1 j) - (c * M a1 j) / p * p)) p)) (by omega) (fun a ha => by rw [zput_ne ha]; exact g1 a ha) (fun i => by
        by_cases e : i = n - k + j
        · subst e
          rw [zput_eq, g2, if_neg (fun h => by omega), if_pos ⟨by omega, by omega⟩, show n - k + j - (n - k) = j by omega]
        · rw [zput_n2 e, g2 i]
          by_cases e2 : n - k ≤ i ∧ i < n - k + j
          · rw [if_pos e2, if_pos ⟨e2.1, by omega⟩]
          · rw [if_neg e2, if_neg (fun h => e2 ⟨h.1, by omega⟩)])
      refine ⟨f + 1, ⟨fun h => absurd h (nI_nlt (by omega) (by omega)), fun _ => ?_⟩⟩
      rw [pk_sub hkn, nI_add, nI_clamp (by omega), nI_clamp (by omega), nI_1]
      have hin : vp_in (nI (n - k + j)) (zlong a0) := by rw [h0]; exact vp_in_nI (by omega) (by decide)
      refine ⟨hin, by rw [h1]; exact vp_in_nI (by omega) (by decide), hp, s_left hp ⟨hin, fun M2 e => ?_⟩⟩
      rw [e, g1 a1 hne]
      exact hf
  exact key (k + 1) 0 M (by omega) (fun _ _ => rfl) (fun i => by rw [if_neg (fun h => by omega)])
theorem s_Mo_reduce {K : zM → Prop} {a0 a1 k q : Nat} {M : zM} (h0 : zlong a0 = 16) (h1 : zlong a1 = 16) (n01 : a0 ≠ a1) (hp : prm ((q + 2 : Nat) : Int)) (p1 : q + 2 < 2 ^ 31) (ha : zrw (q + 2) 16 (M a0)) (hb : zrw (q + 2) 16 (M a1)) (hl : zdg (M a1) 16 = k + 1)
    (kk : ∀ M' : zM, (∀ a, a ≠ a0 → M' a = M a) → zrw (q + 2) 16 (M' a0) → zdg (M' a0) 16 ≤ k → (∃ Q, cg ((q + 2 : Nat) : Int) (prP 16 (M a0)) (plA (plM Q (prP 16 (M a1))) (prP 16 (M' a0)))) → K M') : w_Mo_reduce a0 a1 (nI k) (lN (q + 2)) M K := by
  obtain ⟨g1, g2, g3⟩ := zdg_s hl
  obtain ⟨q1, q2, q3, q4⟩ := z_lNp (P := q + 2) (by omega) p1
  have hbl := hb k g1
  refine ⟨by rw [h1]; exact vp_in_nI g1 (by decide), ?_⟩
  rw [nI_clamp (by omega)]
  refine s_Mo_inverse p1 hbl.1 hbl.2 (fun v v0 v1 hv => ?_)
  have hnd : ¬ ((q + 2 : Nat) : Int) ∣ (M a1 k).toInt := fun c => by
    have h3 : (M a1 k).toInt ≠ 0 := fun e => g2 (by rw [← Int64.toInt_inj, e]; rfl)
    have := Int.le_of_dvd (by omega) c
    omega
  have hvi : ((q + 2 : Nat) : Int) ∣ (M a1 k).toInt * v.toInt - 1 := by
    obtain ⟨y, hy⟩ := hv
    obtain ⟨z, hz⟩ := fermat_inv hp hnd
    exact ⟨(M a1 k).toInt * y + z, by grind⟩
  have key : ∀ m (F : Nat) (M1 : zM), m < F → zdg (M1 a0) 16 = m → (∀ a, a ≠ a0 → M1 a = M a) → zrw (q + 2) 16 (M1 a0) → (∃ Q, cg ((q + 2 : Nat) : Int) (prP 16 (M a0)) (plA (plM Q (prP 16 (M a1))) (prP 16 (M1 a0)))) → L_Mo_reduce_15 K a0 a1 (nI k) (lN (q + 2)) v F (nI m + (-1)) M1 := by
    intro m
    induction m using Nat.strongRecOn with
    | ind m ih =>
      intro F0 M1 hF hm f1 f2 f3
      obtain ⟨F, rfl⟩ : ∃ F, F0 = F + 1 := ⟨F0 - 1, by omega⟩
      have hm16 : m ≤ 16 := by rw [← hm]; exact zdg_le _ _
      by_cases c : m ≤ k
      · refine ⟨fun _ => kk M1 f1 f2 (by omega) f3, fun h => absurd ?_ h⟩
        have : ∀ a, a < 17 → ∀ b, b < 16 → a ≤ b → nI a + (-1) < nI b := by decide
        exact this m (by omega) k g1 c
      · obtain ⟨n, hn⟩ : ∃ n, m = n + 1 := ⟨m - 1, by omega⟩
        subst hn
        obtain ⟨e1, e2, e3⟩ := zdg_s hm
        have ea1 : M1 a1 = M a1 := f1 a1 (fun e => n01 e.symm)
        have hx := f2 n e1
        obtain ⟨m1, m2, m3⟩ := z_mulp p1 hx.1 hx.2 v0 v1
        have hc : ((M1 a0 n * v) - (M1 a0 n * v) / lN (q + 2) * lN (q + 2)).toInt = ((M1 a0 n).toInt * v.toInt) % (q + 2 : Nat) := by
          rw [zrm_e q2 (by rw [m1]; omega) (by rw [m1]; exact m2), m1, q1]
        have hcr := z_emod (P := q + 2) (by omega) ((M1 a0 n).toInt * v.toInt)
        rw [← hc] at hcr
        have step : ∀ M' : zM, (∀ a, a ≠ a0 → M' a = M1 a) → (∀ i, M' a0 i = if n - k ≤ i ∧ i ≤ n then zrs (M1 a0 i - ((((M1 a0 n * v) - (M1 a0 n * v) / lN (q + 2) * lN (q + 2)) * M1 a1 (i - (n - k))) - (((M1 a0 n * v) - (M1 a0 n * v) / lN (q + 2) * lN (q + 2)) * M1 a1 (i - (n - k))) / lN (q + 2) * lN (q + 2))) (lN (q + 2)) else M1 a0 i) → L_Mo_reduce_15 K a0 a1 (nI k) (lN (q + 2)) v F (nI (zdg (M' a0) 16) + (-1)) M' := by
          generalize ((M1 a0 n * v) - (M1 a0 n * v) / lN (q + 2) * lN (q + 2)) = t at hc hcr
          intro M' u1 u2
          have hval : ∀ i, i < 16 → n - k ≤ i → i ≤ n → (M' a0 i).toInt = ((M1 a0 i).toInt - (t.toInt * (M a1 (i - (n - k))).toInt) % (q + 2 : Nat)) % (q + 2 : Nat) := fun i hi c1 c2 => by
            rw [u2 i, if_pos ⟨c1, c2⟩, ea1]
            have hy := hb (i - (n - k)) (by omega)
            have hxi := f2 i hi
            obtain ⟨w1, w2, w3⟩ := z_mulp p1 hcr.1 hcr.2 hy.1 hy.2
            have w4 : ((t * M a1 (i - (n - k))) - (t * M a1 (i - (n - k))) / lN (q + 2) * lN (q + 2)).toInt = (t.toInt * (M a1 (i - (n - k))).toInt) % (q + 2 : Nat) := by
              rw [zrm_e q2 (by rw [w1]; omega) (by rw [w1]; exact w2), w1, q1]
            have w5 := z_emod (P := q + 2) (by omega) (t.toInt * (M a1 (i - (n - k))).toInt)
            have es := zx_sub (x := M1 a0 i) (y := (t * M a1 (i - (n - k))) - (t * M a1 (i - (n - k))) / lN (q + 2) * lN (q + 2)) (by rw [w4]; omega) (by rw [w4]; omega)
            rw [zrs_e q2 (by rw [es, w4]; omega), es, w4, q1]
          have hcong : ∀ i, i < 16 → n - k ≤ i → i ≤ n → ((q + 2 : Nat) : Int) ∣ (M' a0 i).toInt - ((M1 a0 i).toInt - t.toInt * (M a1 (i - (n - k))).toInt) := fun i hi c1 c2 => by
            rw [hval i hi c1 c2]
            obtain ⟨y, hy⟩ := mod_dvd (t.toInt * (M a1 (i - (n - k))).toInt) ((q + 2 : Nat) : Int)
            obtain ⟨z, hz⟩ := mod_dvd ((M1 a0 i).toInt - (t.toInt * (M a1 (i - (n - k))).toInt) % (q + 2 : Nat)) ((q + 2 : Nat) : Int)
            exact ⟨z - y, by grind⟩
          have htop : (M' a0 n).toInt = 0 := by
            have h5 := hcong n e1 (by omega) (Nat.le_refl _)
            rw [show n - (n - k) = k by omega] at h5
            have h6 : ((q + 2 : Nat) : Int) ∣ t.toInt - (M1 a0 n).toInt * v.toInt := by rw [hc]; exact mod_dvd _ _
            have h7 : ((q + 2 : Nat) : Int) ∣ (M' a0 n).toInt := by
              obtain ⟨y, hy⟩ := h5
              obtain ⟨z, hz⟩ := h6
              obtain ⟨w, hw⟩ := hvi
              exact ⟨y - z * (M a1 k).toInt - (M1 a0 n).toInt * w, by grind⟩
            have h8 : 0 ≤ (M' a0 n).toInt ∧ (M' a0 n).toInt < (q + 2 : Nat) := by
              rw [hval n e1 (by omega) (Nat.le_refl _)]; exact z_emod (by omega) _
            rcases Int.lt_or_le 0 (M' a0 n).toInt with g | g
            · have := Int.le_of_dvd g h7
              omega
            · omega
          have r' : zrw (q + 2) 16 (M' a0) := fun i hi => by
            by_cases cc : n - k ≤ i ∧ i ≤ n
            · rw [hval i hi cc.1 cc.2]; exact z_emod (by omega) _
            · rw [u2 i, if_neg cc]; exact f2 i hi
          have hlt : zdg (M' a0) 16 < n + 1 := by
            rcases Nat.lt_or_ge (zdg (M' a0) 16) (n + 1) with g | g
            · exact g
            · exfalso
              obtain ⟨c1, c2, _⟩ := zdg_s (f := M' a0) (n := 16) (d := zdg (M' a0) 16 - 1) (by omega)
              by_cases cc : zdg (M' a0) 16 - 1 = n
              · rw [cc] at c2
                exact c2 (by rw [← Int64.toInt_inj, htop]; rfl)
              · rw [u2, if_neg (fun h => by omega)] at c2
                exact c2 (e3 _ (by omega) c1)
          refine ih _ hlt F M' (by omega) rfl (fun a x => by rw [u1 a x]; exact f1 a x) r' ?_
          obtain ⟨Q, hQ⟩ := f3
          refine ⟨plA Q (plX t.toInt (n - k)), cg_trans hQ ?_⟩
          have h9 : cg ((q + 2 : Nat) : Int) (prP 16 (M1 a0)) (plA (plM (plX t.toInt (n - k)) (prP 16 (M a1))) (prP 16 (M' a0))) := cg_of (fun i => by
            show _ ∣ pr 16 (M1 a0) i - (pmul (pone t.toInt (n - k)) (pr 16 (M a1)) i + pr 16 (M' a0) i)
            rw [pmul_one]
            rcases Nat.lt_or_ge i 16 with g | g
            · rw [pr_lt g, pr_lt g]
              by_cases cc : n - k ≤ i
              · rw [if_pos cc, pr_lt (by omega)]
                by_cases cd : i ≤ n
                · obtain ⟨y, hy⟩ := hcong i g cc cd
                  exact ⟨-y, by grind⟩
                · rw [u2 i, if_neg (fun h => cd h.2), g3 (i - (n - k)) (by omega) (by omega)]
                  show _ ∣ _ - (_ * (0 : Int) + _)
                  exact ⟨0, by rw [Int.mul_zero, Int.mul_zero]; omega⟩
              · rw [if_neg cc, u2 i, if_neg (fun h => cc h.1)]
                exact ⟨0, by rw [Int.mul_zero]; omega⟩
            · rw [pr_ge g, pr_ge g]
              by_cases cc : n - k ≤ i
              · rw [if_pos cc]
                have : pr 16 (M a1) (i - (n - k)) = 0 := by
                  rcases Nat.lt_or_ge (i - (n - k)) 16 with g' | g'
                  · rw [pr_lt g', g3 (i - (n - k)) (by omega) g']; rfl
                  · exact pr_ge g'
                rw [this]
                exact ⟨0, by rw [Int.mul_zero, Int.mul_zero]; omega⟩
              · rw [if_neg cc]
                exact ⟨0, by rw [Int.mul_zero]; omega⟩)
          exact cg_trans (cg_A cg_refl h9) (cg_eq (fun x => by simp only [ev_A, ev_M]; grind))
        rw [pk_m1]
        refine ⟨fun h => absurd h (nI_nlt (by omega) (by omega)), fun _ => ⟨by rw [h0]; exact vp_in_nI e1 (by decide), q4, fun x7 e7 => ?_⟩⟩
        rw [nI_clamp (by omega)] at e7
        rw [e7]
        exact s_Mo_red35 h0 h1 (fun e => n01 e.symm) (by omega : k ≤ n) e1 q4 (fun M' u1 u2 => s_Mo_degreeOf h0 (step M' u1 u2))
  refine s_Mo_degreeOf h0 ?_
  exact ⟨17, key _ 17 M (by have := zdg_le (M a0) 16; omega) rfl (fun _ _ => rfl) ha ⟨plX 0 0, cg_eq (fun x => by simp only [ev_A, ev_M, ev_X]; grind)⟩⟩
theorem row_mt16 {P : Nat} {f : Nat → Int64} {d : Nat} (h : zrw P 16 f) (z : zdg f 16 = d + 1) : mt P (prP 16 f) d := by
  obtain ⟨g1, g2, g3⟩ := zdg_s z
  refine ⟨fun c => ?_, fun i hi => ?_⟩
  · have h3 : (prP 16 f).1 d = (f d).toInt := pr_lt g1
    rw [h3] at c
    have h2 := h d g1
    have h4 : (f d).toInt ≠ 0 := fun e => g2 (by rw [← Int64.toInt_inj, e]; rfl)
    have := Int.le_of_dvd (by omega) c
    omega
  · show (P : Int) ∣ pr 16 f i
    rcases Nat.lt_or_ge i 16 with g | g
    · rw [pr_lt g, g3 i hi g]; exact ⟨0, (Int.mul_zero _).symm⟩
    · rw [pr_ge g]; exact ⟨0, (Int.mul_zero _).symm⟩
theorem row_016 {p : Int} {f : Nat → Int64} (h : zdg f 16 = 0) : zr p (prP 16 f) := fun i => by
  show p ∣ pr 16 f i
  rcases Nat.lt_or_ge i 16 with g | g
  · rw [pr_lt g, zdg_0 h i g]; exact ⟨0, (Int.mul_zero p).symm⟩
  · rw [pr_ge g]; exact ⟨0, (Int.mul_zero p).symm⟩
theorem s_Mo_swap {K : Int32 → zM → Prop} {k55 : Int32 → zM → Prop} {p : Int64} {M : zM} (q : ∀ M' : zM, (∀ a, a ≠ 111 → a ≠ 112 → M' a = M a) → (∀ i, i < 16 → M' 111 i = M 112 i) → (∀ i, i < 16 → M' 112 i = M 111 i) → k55 (nI (zdg (M' 112) 16) + (-1)) M') : ∃ n, L_Mo_euclid_77 K k55 p n (0 : Int32) M := by
  have z1 : zlong 111 = 16 := by decide
  have z2 : zlong 112 = 16 := by decide
  have key : ∀ d j (M1 : zM), j + d = 16 → (∀ a, a ≠ 111 → a ≠ 112 → M1 a = M a) → (∀ i, i < j → M1 111 i = M 112 i) → (∀ i, i < j → M1 112 i = M 111 i) → (∀ i, j ≤ i → M1 111 i = M 111 i) → (∀ i, j ≤ i → M1 112 i = M 112 i) → ∃ n, L_Mo_euclid_77 K k55 p n (nI j) M1 := by
    intro d
    induction d with
    | zero =>
      intro j M1 hj g1 g2 g3 _ _
      have : j = 16 := by omega
      subst this
      exact ⟨1, ⟨fun _ => s_Mo_degreeOf z2 (q M1 g1 g2 g3), fun h => absurd (by decide) h⟩⟩
    | succ d ih =>
      intro j M1 hj g1 g2 g3 g4 g5
      obtain ⟨n, hn⟩ := ih (j + 1) (zput (zput M1 111 j (M1 112 j)) 112 j (M1 111 j)) (by omega) (fun a x y => by rw [zput_ne y, zput_ne x]; exact g1 a x y) (fun i hi => by
        rw [zput_ne (by decide)]
        by_cases e : i = j
        · subst e; rw [zput_eq]; exact g5 i (Nat.le_refl _)
        · rw [zput_n2 e]; exact g2 i (by omega)) (fun i hi => by
        by_cases e : i = j
        · subst e; rw [zput_eq]; exact g4 i (Nat.le_refl _)
        · rw [zput_n2 e, zput_ne (by decide)]; exact g3 i (by omega)) (fun i hi => by
        rw [zput_ne (by decide), zput_n2 (by omega)]; exact g4 i (by omega)) (fun i hi => by
        rw [zput_n2 (by omega), zput_ne (by decide)]; exact g5 i (by omega))
      have i1 : vp_in (nI j) (zlong 111) := by rw [z1]; exact vp_in_nI (by omega) (by decide)
      have i2 : vp_in (nI j) (zlong 112) := by rw [z2]; exact vp_in_nI (by omega) (by decide)
      refine ⟨n + 1, ⟨fun h => absurd h (nI_ge (b := 16) (by omega) (by decide)), fun _ => ⟨i1, fun x25 e25 => ⟨i2, i1, fun M26 e26 => ⟨i2, fun M27 e27 => ?_⟩⟩⟩⟩⟩
      rw [nI_clamp (by omega)] at e25 e26 e27
      rw [e27, e26, e25, nI_1]
      exact hn
  exact key 16 0 M (by omega) (fun _ _ _ => rfl) (fun i hi => by omega) (fun i hi => by omega) (fun _ _ => rfl) (fun _ _ => rfl)
theorem s_Mo_mon {K : Int32 → zM → Prop} {M : zM} {n q : Nat} {v : Int64} (hn : n < 16) (p1 : q + 2 < 2 ^ 31) (ha : zrw (q + 2) 16 (M 111)) (v0 : 0 ≤ v.toInt) (v1 : v.toInt < (q + 2 : Nat)) (k : ∀ M' : zM, (∀ a, a ≠ 111 → M' a = M a) → (∀ i, i ≤ n → (M' 111 i).toInt = ((M 111 i).toInt * v.toInt) % (q + 2 : Nat)) → (∀ i, n < i → M' 111 i = M 111 i) → K (nI n) M') : ∃ f, L_Mo_euclid_159 K (lN (q + 2)) (nI n) v f (0 : Int32) M := by
  obtain ⟨q1, q2, q3, q4⟩ := z_lNp (P := q + 2) (by omega) p1
  have z1 : zlong 111 = 16 := by decide
  have key : ∀ d j (M1 : zM), j + d = n + 1 → (∀ a, a ≠ 111 → M1 a = M a) → (∀ i, i < j → (M1 111 i).toInt = ((M 111 i).toInt * v.toInt) % (q + 2 : Nat)) → (∀ i, j ≤ i → M1 111 i = M 111 i) → ∃ f, L_Mo_euclid_159 K (lN (q + 2)) (nI n) v f (nI j) M1 := by
    intro d
    induction d with
    | zero =>
      intro j M1 hj g1 g2 g3
      have : j = n + 1 := by omega
      subst this
      exact ⟨1, ⟨fun _ => k M1 g1 (fun i hi => g2 i (by omega)) (fun i hi => g3 i hi), fun h => absurd (nI_lt (by omega) (by omega)) h⟩⟩
    | succ d ih =>
      intro j M1 hj g1 g2 g3
      have hx := ha j (by omega)
      obtain ⟨m1, m2, m3⟩ := z_mulp p1 hx.1 hx.2 v0 v1
      obtain ⟨f, hf⟩ := ih (j + 1) (zput M1 111 j ((M1 111 j * v) - (M1 111 j * v) / lN (q + 2) * lN (q + 2))) (by omega) (fun a x => by rw [zput_ne x]; exact g1 a x) (fun i hi => by
        by_cases e : i = j
        · subst e
          rw [zput_eq, g3 i (Nat.le_refl _), zrm_e q2 (by rw [m1]; omega) (by rw [m1]; exact m2), m1, q1]
        · rw [zput_n2 e]; exact g2 i (by omega)) (fun i hi => by
        rw [zput_n2 (by omega)]; exact g3 i (by omega))
      have i1 : vp_in (nI j) (zlong 111) := by rw [z1]; exact vp_in_nI (by omega) (by decide)
      refine ⟨f + 1, ⟨fun h => absurd h (nI_nlt (by omega) (by omega)), fun _ => ⟨i1, q4, i1, fun M21 e21 => ?_⟩⟩⟩
      rw [nI_clamp (by omega)] at e21
      rw [e21, nI_1]
      exact hf
  exact key (n + 1) 0 M (by omega) (fun _ _ => rfl) (fun i hi => by omega) (fun _ _ => rfl)
theorem s_Mo_euclid {K : Int32 → zM → Prop} {a1 a2 q : Nat} {M : zM} (h1 : zlong a1 = 16) (h2 : zlong a2 = 16) (n11 : a1 ≠ 111) (n12 : a1 ≠ 112) (n21 : a2 ≠ 111) (n22 : a2 ≠ 112) (hp : prm ((q + 2 : Nat) : Int)) (p1 : q + 2 < 2 ^ 31) (ba : ∀ i, i < 16 → (M a1 i).toInt.natAbs < 2 ^ 62) (bb : ∀ i, i < 16 → (M a2 i).toInt.natAbs < 2 ^ 62) (hA : ¬ zr ((q + 2 : Nat) : Int) (prP 16 (M a1)))
    (k : ∀ (d : Nat) (M' : zM), d < 16 → (∀ a, a ≠ 111 → a ≠ 112 → M' a = M a) → zrw (q + 2) 16 (M' 111) → zdg (M' 111) 16 = d + 1 → eg ((q + 2 : Nat) : Int) (prP 16 (M a1)) (prP 16 (M a2)) (prP 16 (M' 111)) d → K (nI d) M') : w_Mo_euclid a1 a2 (lN (q + 2)) M K := by
  obtain ⟨q1, q2, q3, q4⟩ := z_lNp (P := q + 2) (by omega) p1
  have z1 : zlong 111 = 16 := by decide
  have z2 : zlong 112 = 16 := by decide
  have fin : ∀ M1 : zM, (∀ a, a ≠ 111 → a ≠ 112 → M1 a = M a) → zrw (q + 2) 16 (M1 111) → zdg (M1 112) 16 = 0 → euc ((q + 2 : Nat) : Int) (prP 16 (M a1)) (prP 16 (M a2)) (prP 16 (M1 111)) (prP 16 (M1 112)) → w_Mo_degreeOf 111 M1 (fun r12 => vp_in r12 (zlong 111) ∧ w_Mo_inverse (M1 111 r12.toNatClampNeg) (lN (q + 2)) (fun r15 => ∃ n, L_Mo_euclid_159 K (lN (q + 2)) r12 r15 n (0 : Int32) M1)) := by
    intro M1 hfr rh hl hE
    obtain ⟨⟨u, v, e1⟩, _, e3⟩ := hE
    obtain ⟨da, db⟩ := e3 (prP 16 (M1 111)) dvp_refl (dvp_0 (row_016 hl))
    have hn : zdg (M1 111) 16 ≠ 0 := fun c => hA (by
      obtain ⟨y, hy⟩ := da
      refine zr_cg hy ?_
      have := zr_M (a := y) (row_016 (p := ((q + 2 : Nat) : Int)) c)
      exact zr_cg (cg_eq (fun x => by rw [ev_M, ev_M, Int.mul_comm])) this)
    obtain ⟨d, hd⟩ : ∃ d, zdg (M1 111) 16 = d + 1 := ⟨zdg (M1 111) 16 - 1, by omega⟩
    obtain ⟨g1, g2, g3⟩ := zdg_s hd
    refine s_Mo_degreeOf z1 ?_
    rw [hd, pk_m1]
    refine ⟨by rw [z1]; exact vp_in_nI g1 (by decide), ?_⟩
    rw [nI_clamp (by omega)]
    have hbl := rh d g1
    refine s_Mo_inverse p1 hbl.1 hbl.2 (fun w v0 v1 hv => ?_)
    have hnd : ¬ ((q + 2 : Nat) : Int) ∣ (M1 111 d).toInt := fun c => by
      have h3 : (M1 111 d).toInt ≠ 0 := fun e => g2 (by rw [← Int64.toInt_inj, e]; rfl)
      have := Int.le_of_dvd (by omega) c
      omega
    have f2 : ((q + 2 : Nat) : Int) ∣ (M1 111 d).toInt * w.toInt - 1 := by
      obtain ⟨y, hy⟩ := hv
      obtain ⟨z, hz⟩ := fermat_inv hp hnd
      exact ⟨(M1 111 d).toInt * y + z, by grind⟩
    refine s_Mo_mon g1 p1 rh v0 v1 (fun M' f1 f3 f4 => ?_)
    have lead : (M' 111 d).toInt = 1 := by
      rw [f3 d (Nat.le_refl _)]
      obtain ⟨y, hy⟩ := f2
      rw [show (M1 111 d).toInt * w.toInt = 1 + ((q + 2 : Nat) : Int) * y by omega, Int.add_mul_emod_self_left, Int.emod_eq_of_lt (by decide) (by omega)]
    have zero : ∀ i, d < i → i < 16 → M' 111 i = 0 := fun i a b => by
      rw [f4 i a]; exact g3 i a b
    have hz' : zdg (M' 111) 16 = d + 1 := by
      rw [zdg_up (n := d + 1) (by omega) (fun i a b => zero i (by omega) b)]
      show (if M' 111 d = 0 then zdg (M' 111) d else d + 1) = _
      rw [if_neg (fun e => by rw [e] at lead; exact absurd lead (by decide))]
    have rr' : zrw (q + 2) 16 (M' 111) := fun i hi => by
      by_cases c : i ≤ d
      · rw [f3 i c]; exact z_emod (by omega) _
      · rw [zero i (by omega) hi]; exact ⟨by decide, by show (0 : Int) < _; omega⟩
    have c1 : cg ((q + 2 : Nat) : Int) (prP 16 (M' 111)) (plK w.toInt (prP 16 (M1 111))) := cg_of (fun i => by
      show _ ∣ pr 16 (M' 111) i - w.toInt * pr 16 (M1 111) i
      rcases Nat.lt_or_ge i 16 with g | g
      · rw [pr_lt g, pr_lt g]
        by_cases c : i ≤ d
        · rw [f3 i c, Int.mul_comm w.toInt]
          exact mod_dvd _ _
        · rw [zero i (by omega) g, g3 i (by omega) g]
          show _ ∣ (0 : Int) - _ * (0 : Int)
          exact ⟨0, by rw [Int.mul_zero, Int.mul_zero]; rfl⟩
      · rw [pr_ge g, pr_ge g, Int.mul_zero]
        exact ⟨0, (Int.mul_zero _).symm⟩)
    have dv : dvp ((q + 2 : Nat) : Int) (prP 16 (M' 111)) (prP 16 (M1 111)) := by
      obtain ⟨y, hy⟩ := f2
      refine ⟨plX ((M1 111 d).toInt) 0, ?_⟩
      refine cg_symm (cg_trans (cg_M c1 cg_refl) ⟨plK y (prP 16 (M1 111)), fun x => ?_⟩)
      simp only [ev_M, ev_K, ev_X, Int.pow_zero]
      grind
    refine k d M' g1 (fun a x y => by rw [f1 a x]; exact hfr a x y) rr' hz' ⟨fun i hi => ?_, ?_, ⟨plK w.toInt u, plK w.toInt v, ?_⟩, dvp_trans dv da, dvp_trans dv db⟩
    · show pr 16 (M' 111) i = 0
      rcases Nat.lt_or_ge i 16 with g | g
      · rw [pr_lt g, zero i (by omega) g]; rfl
      · exact pr_ge g
    · show pr 16 (M' 111) d = 1
      rw [pr_lt g1]; exact lead
    · exact cg_trans c1 (cg_trans (cg_K e1) (cg_eq (fun x => by simp only [ev_K, ev_A, ev_M]; grind)))
  have key : ∀ m (F : Nat) (M1 : zM), m < F → zdg (M1 112) 16 = m → (∀ a, a ≠ 111 → a ≠ 112 → M1 a = M a) → zrw (q + 2) 16 (M1 111) → zrw (q + 2) 16 (M1 112) → euc ((q + 2 : Nat) : Int) (prP 16 (M a1)) (prP 16 (M a2)) (prP 16 (M1 111)) (prP 16 (M1 112)) → L_Mo_euclid_55 K (lN (q + 2)) F (nI m + (-1)) M1 := by
    intro m
    induction m using Nat.strongRecOn with
    | ind m ih =>
      intro F0 M1 hF hm hfr r1 r2 hE
      obtain ⟨F, rfl⟩ : ∃ F, F0 = F + 1 := ⟨F0 - 1, by omega⟩
      rcases Nat.eq_zero_or_pos m with e | e
      · subst e
        exact ⟨fun _ => fin M1 hfr r1 hm hE, fun h => absurd (by decide) h⟩
      · obtain ⟨low, rfl⟩ : ∃ low, m = low + 1 := ⟨m - 1, by omega⟩
        have hl := zdg_le (M1 112) 16
        rw [pk_m1]
        refine ⟨fun h => absurd h (nI_pos (by omega)), fun _ => s_Mo_reduce z1 z2 (by decide) hp p1 r1 r2 hm (fun M' f1 f2 f3 f4 => ?_)⟩
        refine s_Mo_swap (fun M2 s1 s2 s3 => ?_)
        have e112 : M' 112 = M1 112 := f1 112 (by decide)
        have z3 : zdg (M2 112) 16 = zdg (M' 111) 16 := zdg_congr s3
        obtain ⟨Q, hQ⟩ := f4
        refine ih _ (by omega) F M2 (by omega) rfl (fun a x y => by rw [s1 a x y, f1 a x]; exact hfr a x y) (fun i hi => by rw [s2 i hi, e112]; exact r2 i hi) (fun i hi => by rw [s3 i hi]; exact f2 i hi) ?_
        rw [prP_congr s2, prP_congr s3, e112]
        exact euc_step hE hQ
  have start : ∀ d j (M1 : zM), j + d = 16 → (∀ a, a ≠ 111 → a ≠ 112 → M1 a = M a) → (∀ i, i < j → (M1 111 i).toInt = (M a1 i).toInt % (q + 2 : Nat)) → (∀ i, i < j → (M1 112 i).toInt = (M a2 i).toInt % (q + 2 : Nat)) → ∃ n, L_Mo_euclid_3 K a1 a2 (lN (q + 2)) n (nI j) M1 := by
    intro d
    induction d with
    | zero =>
      intro j M1 hj g1 g2 g3
      have : j = 16 := by omega
      subst this
      refine ⟨1, ⟨fun _ => s_Mo_degreeOf z2 ⟨17, key _ 17 M1 (by have := zdg_le (M1 112) 16; omega) rfl g1 (fun i hi => by rw [g2 i hi]; exact z_emod (by omega) _) (fun i hi => by rw [g3 i hi]; exact z_emod (by omega) _) ?_⟩, fun h => absurd (by decide) h⟩⟩
      have c1 : cg ((q + 2 : Nat) : Int) (prP 16 (M1 111)) (prP 16 (M a1)) := cg_of (fun i => by
        show _ ∣ pr 16 (M1 111) i - pr 16 (M a1) i
        rcases Nat.lt_or_ge i 16 with g | g
        · rw [pr_lt g, pr_lt g, g2 i g]; exact mod_dvd _ _
        · rw [pr_ge g, pr_ge g]; exact ⟨0, (Int.mul_zero _).symm⟩)
      have c2 : cg ((q + 2 : Nat) : Int) (prP 16 (M1 112)) (prP 16 (M a2)) := cg_of (fun i => by
        show _ ∣ pr 16 (M1 112) i - pr 16 (M a2) i
        rcases Nat.lt_or_ge i 16 with g | g
        · rw [pr_lt g, pr_lt g, g3 i g]; exact mod_dvd _ _
        · rw [pr_ge g, pr_ge g]; exact ⟨0, (Int.mul_zero _).symm⟩)
      obtain ⟨⟨u, v, e1⟩, ⟨s, t, e2⟩, _⟩ := euc_0 (p := ((q + 2 : Nat) : Int)) (A := prP 16 (M a1)) (B := prP 16 (M a2))
      exact ⟨⟨u, v, cg_trans c1 e1⟩, ⟨s, t, cg_trans c2 e2⟩, fun D x y => ⟨dvp_cg x (cg_symm c1), dvp_cg y (cg_symm c2)⟩⟩
    | succ d ih =>
      intro j M1 hj g1 g2 g3
      obtain ⟨n, hn⟩ := ih (j + 1) (zput (zput M1 111 j (zrs (M a1 j) (lN (q + 2)))) 112 j (zrs (M a2 j) (lN (q + 2)))) (by omega) (fun a x y => by rw [zput_ne y, zput_ne x]; exact g1 a x y) (fun i hi => by
        rw [zput_ne (by decide)]
        by_cases e : i = j
        · subst e; rw [zput_eq, zrs_e q2 (ba i (by omega)), q1]
        · rw [zput_n2 e]; exact g2 i (by omega)) (fun i hi => by
        by_cases e : i = j
        · subst e; rw [zput_eq, zrs_e q2 (bb i (by omega)), q1]
        · rw [zput_n2 e, zput_ne (by decide)]; exact g3 i (by omega))
      have i1 : vp_in (nI j) (zlong 111) := by rw [z1]; exact vp_in_nI (by omega) (by decide)
      have i2 : vp_in (nI j) (zlong 112) := by rw [z2]; exact vp_in_nI (by omega) (by decide)
      refine ⟨n + 1, ⟨fun h => absurd h (nI_ge (b := 16) (by omega) (by decide)), fun _ => ⟨by rw [h1]; exact vp_in_nI (by omega) (by decide), ?_⟩⟩⟩
      rw [nI_clamp (by omega), g1 a1 n11 n12]
      refine s_left q4 ⟨i1, fun M7 e7 => ⟨by rw [h2]; exact vp_in_nI (by omega) (by decide), ?_⟩⟩
      rw [e7, zput_ne n21, g1 a2 n21 n22]
      refine s_left q4 ⟨i2, fun M11 e11 => ?_⟩
      rw [e11, nI_1]
      exact hn
  exact start 16 0 M (by omega) (fun _ _ _ => rfl) (fun i hi => by omega) (fun i hi => by omega)
