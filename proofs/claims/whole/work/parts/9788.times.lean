/-! Dividing within the divisors of the whole; how often a factor divides, on both sides. -/
def wld (W : Pl) (w : Nat) : Prop := prim W ∧ 0 < W.1 w ∧ dl (w + 1) W ∧ 1 ≤ w ∧ w ≤ 7 ∧ ∀ i, ab (W.1 i) ≤ 99999
theorem wld_ok {W : Pl} {w : Nat} (h : wld W w) : okb W := okb_reg (dl_mono (by have := h.2.2.2.2.1; omega) h.2.2.1) ⟨w, by have := h.2.1; omega⟩ h.2.2.2.2.2
theorem ab_pos {x : Int} (h : x ≠ 0) : 1 ≤ ab x := by unfold ab; omega
theorem wld_b {W a : Pl} {w : Nat} (h : wld W w) (ha : dvz a W) : (∀ i, ab (a.1 i) ≤ 100000000) ∧ dl 8 a ∧ ∃ k, k ≤ w ∧ a.1 k ≠ 0 ∧ dl (k + 1) a := by
  obtain ⟨q, hq⟩ := ha
  obtain ⟨k, m, km, k1, k2, m1, m2, _⟩ := dvz_top (by have := h.2.1; omega) h.2.2.1 hq
  have h7 := h.2.2.2.2.1
  refine ⟨fun i => ?_, dl_mono (by omega) k2, k, by omega, k1, k2⟩
  have := wld_ok h a q hq m m1 m2 i
  have h1 := ab_pos m1
  have h2 := ab_nn (a.1 i)
  have h3 : ab (a.1 i) * 1 ≤ ab (a.1 i) * ab (q.1 m) := Int.mul_le_mul_of_nonneg_left h1 h2
  omega
theorem s_fq {P : Int32 → zM → Prop} {a0 a1 a2 a3 w : Nat} {M : zM} {W : Pl} (hW : wld W w) (h0 : zlong a0 = 8) (h1 : zlong a1 = 8) (h2 : zlong a2 = 8) (h3 : zlong a3 = 8) (n02 : a0 ≠ a2) (n12 : a1 ≠ a2) (n13 : a1 ≠ a3) (n23 : a2 ≠ a3) (dA : dvz (prP 8 (M a0)) W) (dF : dvz (prP 8 (M a1)) W)
    (yes : ∀ M' : zM, (∀ a, a ≠ a2 → a ≠ a3 → M' a = M a) → (∀ x, ev (prP 8 (M a0)) x = ev (prP 8 (M a1)) x * ev (prP 8 (M' a2)) x) → P 1 M') (no : ∀ M' : zM, (∀ a, a ≠ a2 → a ≠ a3 → M' a = M a) → ¬ dvz (prP 8 (M a1)) (prP 8 (M a0)) → P 0 M') : w_Ro_findQuotient a0 a1 a2 a3 M P := by
  obtain ⟨bA, _, _⟩ := wld_b hW dA
  obtain ⟨bF, _, k, k7, k1, k2⟩ := wld_b hW dF
  have h7 := hW.2.2.2.2.1
  have hz : zdg (M a1) 8 ≠ 0 := by rw [row_zdg (n := k) (by omega) k1 k2]; omega
  have val : ∀ {a i : Nat}, i < 8 → (prP 8 (M a)).1 i = (M a i).toInt := fun hi => pr_lt hi
  have hw : zwid (M a1) 8 := fun i hi => by
    have := bF i
    rw [val hi] at this
    unfold ab at this
    omega
  refine s_findQuotient h0 h1 h2 h3 n02 n12 n13 n23 (fun i hi => by
    have := bA i
    rw [val hi] at this
    unfold ab at this
    omega) (fun c => by
    rcases c with c | c
    · exact absurd c hz
    · exact absurd hw c) (fun _ _ M' f1 f2 => yes M' f1 (z_pdiv_ev f2)) (fun _ _ M' f1 f2 => no M' f1 (fun ⟨q, hq⟩ => f2 ⟨q.1, ?_⟩))
  have dq : dvz q W := dvz_trans (dvz_r hq) dA
  obtain ⟨bq, d8, _⟩ := wld_b hW dq
  exact gok_pdiv (A := prP 8 (M a0)) (G := prP 8 (M a1)) (fun _ => rfl) (fun _ => rfl) hq bq d8
theorem s_md {P : Int32 → zM → Prop} {a1 a2 w : Nat} {M : zM} {W : Pl} (hW : wld W w) (h1 : zlong a1 = 16) (h2 : zlong a2 = 16) (n12 : a1 ≠ 110) (n13 : a1 ≠ 109) (n22 : a2 ≠ 110) (n23 : a2 ≠ 109) (dA : dvz (prP 16 (M a2)) W) (bF : ∀ i, i < 16 → ab (M a1 i).toInt ≤ 1000000000) (hz : zdg (M a1) 16 ≠ 0)
    (yes : ∀ M' : zM, (∀ a, a ≠ 110 → a ≠ 109 → M' a = M a) → (∀ x, ev (prP 16 (M a2)) x = ev (prP 16 (M a1)) x * ev (prP 16 (M' 110)) x) → P 1 M') (no : ∀ M' : zM, (∀ a, a ≠ 110 → a ≠ 109 → M' a = M a) → ¬ dvz (prP 16 (M a1)) (prP 16 (M a2)) → P 0 M') : w_Mo_divides a1 a2 M P := by
  obtain ⟨bA, _, k, k7, k1, k2⟩ := wld_b hW dA
  have h7 := hW.2.2.2.2.1
  have val : ∀ {a i : Nat}, i < 16 → (prP 16 (M a)).1 i = (M a i).toInt := fun hi => pr_lt hi
  refine s_Mo_divides h1 h2 n12 n13 n22 n23 hz (by rw [row_zdg16 (n := k) (by omega) k1 k2]; omega) (fun i hi => by
    have := bF i hi
    unfold ab at this
    omega) (fun i hi => by
    have := bA i
    rw [val hi] at this
    unfold ab at this
    omega) (fun M' f1 f2 => yes M' f1 (z_pdiv_ev16 f2)) (fun M' f1 f2 => no M' f1 (fun ⟨q, hq⟩ => f2 ⟨q.1, ?_⟩))
  have dq : dvz q W := dvz_trans (dvz_r hq) dA
  obtain ⟨bq, d8, _⟩ := wld_b hW dq
  exact gok_pdiv16 (A := prP 16 (M a2)) (G := prP 16 (M a1)) (fun _ => rfl) (fun _ => rfl) hq bq d8
theorem pow_top {F : Pl} {d : Nat} (h1 : F.1 d ≠ 0) (h2 : dl (d + 1) F) : ∀ t, (plP F t).1 (t * d) ≠ 0 ∧ dl (t * d + 1) (plP F t)
  | 0 => ⟨by rw [Nat.zero_mul]; show (1 : Int) ≠ 0; decide, dl_X (Nat.succ_pos _)⟩
  | t + 1 => by
    have ih := pow_top h1 h2 t
    have := top_M ih.1 ih.2 h1 h2
    rw [Nat.succ_mul]
    exact this
theorem pow_le {F W A : Pl} {d w t : Nat} (hW : wld W w) (h1 : F.1 d ≠ 0) (h2 : dl (d + 1) F) (hd : 1 ≤ d) (e : ∀ x, ev W x = ev F x ^ t * ev A x) : t ≤ w := by
  obtain ⟨k, m, km, k1, k2, m1, m2, _⟩ := dvz_top (a := plP F t) (q := A) (by have := hW.2.1; omega) hW.2.2.1 (fun x => by rw [ev_P]; exact e x)
  have ht := pow_top h1 h2 t
  have := top_u k1 k2 ht.1 ht.2
  have h3 : t * 1 ≤ t * d := Nat.mul_le_mul_left t hd
  omega
theorem s_timesInWhole {P : Int32 → zM → Prop} {a1 w d : Nat} {M : zM} {W F : Pl} (hW : wld W w) (z1 : zlong a1 = 8) (r1 : a1 ≠ 75 ∧ a1 ≠ 77 ∧ a1 ≠ 78) (h73 : prP 8 (M 73) = W) (hF : prP 8 (M a1) = F) (iF : irz F d) (dF : dvz F W)
    (k : ∀ (e : Nat) (M' : zM), (∀ a, a ≠ 75 → a ≠ 77 → a ≠ 78 → M' a = M a) → e ≤ 7 → mlt F W e → P (nI e) M') : w_Sp_timesInWhole a1 M P := by
  have h7 := hW.2.2.2.2.1
  have f2 := iF.2.1
  refine s_copyInto (by decide) (by decide) (fun M2 g1 g2 => ?_)
  have key : ∀ u t (M1 : zM), t + u = 8 → (∀ a, a ≠ 75 → a ≠ 77 → a ≠ 78 → M1 a = M a) → (∀ x, ev W x = ev F x ^ t * ev (prP 8 (M1 75)) x) → L_Sp_timesInWhole_13 P a1 (u + 1) (nI t) M1 := by
    intro u
    induction u with
    | zero =>
      intro t M1 ht g1 g2
      exfalso
      have := pow_le hW (by omega) iF.2.2.1 iF.2.2.2.1 g2
      omega
    | succ u ih =>
      intro t M1 ht g1 g2
      have e1 : prP 8 (M1 a1) = F := by rw [g1 a1 r1.1 r1.2.1 r1.2.2]; exact hF
      refine ⟨fun c => absurd c (nI_ge (b := 8) (by omega) (by omega)), fun _ => s_fq hW (by decide) z1 (by decide) (by decide) (by decide) r1.2.1 r1.2.2 (by decide) (dvz_r (a := plP F t) (fun x => by rw [ev_P]; exact g2 x)) (by rw [e1]; exact dF) (fun M5 w1 w2 => ⟨fun c => absurd c (by decide), fun _ => s_copyInto (by decide) (by decide) (fun M8 v1 v2 => ?_)⟩) (fun M5 w1 w2 => ⟨fun _ => ?_, fun c => absurd rfl c⟩)⟩
      · rw [nI_1]
        refine ih (t + 1) M8 (by omega) (fun a x y z => by rw [v1 a x, w1 a y z]; exact g1 a x y z) (fun x => ?_)
        rw [prP_congr v2, g2 x, w2 x, e1, Int.pow_succ, Int.mul_assoc]
      · rw [e1] at w2
        have ht7 := pow_le hW (by omega) iF.2.2.1 iF.2.2.2.1 g2
        exact k t M5 (fun a x y z => by rw [w1 a y z]; exact g1 a x y z) (by omega) ⟨prP 8 (M1 75), g2, w2⟩
  refine ⟨9, key 8 0 M2 (by decide) (fun a x _ _ => g1 a x) (fun x => ?_)⟩
  rw [prP_congr g2, h73, Int.pow_zero, Int.one_mul]
/-- the reference: row i of the new factors -/
def Nf (M : zM) (i : Nat) : Pl := prP 8 (fun k => M 103 (8 * i + k))
theorem pr_16 {f g : Nat → Int64} (h : ∀ i, i < 8 → f i = g i) (hz : ∀ i, 8 ≤ i → i < 16 → f i = 0) : prP 16 f = prP 8 g := pl_ext (fun i => by
  show pr 16 f i = pr 8 g i
  rcases Nat.lt_or_ge i 8 with c | c
  · rw [pr_lt (by omega), pr_lt c, h i c]
  · rw [pr_ge c]
    rcases Nat.lt_or_ge i 16 with d | d
    · rw [pr_lt d, hz i c d]; rfl
    · exact pr_ge d)
theorem s_often {P : Int32 → zM → Prop} {w d i : Nat} {M : zM} {W F A : Pl} (hW : wld W w) (hi : i < 7) (hA : prP 16 (M 104) = A) (dA : dvz A W) (hF : Nf M i = F) (iF : irz F d) (dF : dvz F W)
    (k : ∀ (e : Nat) (M' : zM), (∀ a, a ≠ 104 → a ≠ 106 → a ≠ 109 → a ≠ 110 → M' a = M a) → e ≤ 7 → (∀ x, ev A x = ev F x ^ e * ev (prP 16 (M' 104)) x) → ¬ dvz F (prP 16 (M' 104)) → P (nI e) M') : w_Mo_often (nI i) M P := by
  have h7 := hW.2.2.2.2.1
  have f2 := iF.2.1
  obtain ⟨bF, dF8, kF, kF7, kF1, kF2⟩ := wld_b hW dF
  have snd : ∀ (M2 : zM), (∀ a, a ≠ 106 → M2 a = M a) → prP 16 (M2 106) = F → ∃ n, L_Mo_often_43 P n (0 : Int32) M2 := by
    intro M2 y1 y2
    obtain ⟨v, hv⟩ := id dA
    have key : ∀ u t (M1 : zM), t + u = 8 → (∀ a, a ≠ 104 → a ≠ 106 → a ≠ 109 → a ≠ 110 → M1 a = M a) → M1 106 = M2 106 → (∀ x, ev A x = ev F x ^ t * ev (prP 16 (M1 104)) x) → L_Mo_often_43 P (u + 1) (nI t) M1 := by
      intro u t M1 ht g1 g0 g2
      have htw : t ≤ w := pow_le (A := plM (prP 16 (M1 104)) v) hW (by omega) iF.2.2.1 iF.2.2.2.1 (fun x => by rw [hv x, g2 x, ev_M, Int.mul_assoc])
      induction u generalizing t M1 with
      | zero => omega
      | succ u ih =>
        have e1 : prP 16 (M1 106) = F := by rw [g0]; exact y2
        refine s_md hW (by decide) (by decide) (by decide) (by decide) (by decide) (by decide) (dvz_trans (dvz_r (a := plP F t) (fun x => by rw [ev_P]; exact g2 x)) dA) (fun j hj => ?_) ?_ (fun M5 w1 w2 => ⟨fun c => absurd c (by decide), fun _ => s_Mo_copy (by decide) (by decide) (by decide) (fun M8 v1 v2 => ?_)⟩) (fun M5 w1 w2 => ⟨fun _ => ?_, fun c => absurd rfl c⟩)
        · have := bF j
          rw [← e1] at this
          rw [show (prP 16 (M1 106)).1 j = (M1 106 j).toInt from pr_lt hj] at this
          omega
        · rw [row_zdg16 (n := kF) (by omega) (by rw [e1]; exact kF1) (by rw [e1]; exact kF2)]
          omega
        · rw [nI_1]
          have e2 : ∀ x, ev A x = ev F x ^ (t + 1) * ev (prP 16 (M8 104)) x := fun x => by
            rw [prP_congr v2, g2 x, w2 x, e1, Int.pow_succ, Int.mul_assoc]
          exact ih (t + 1) M8 (by omega) (fun a x y z q => by rw [v1 a x, w1 a q z]; exact g1 a x y z q) (by rw [v1 106 (by decide), w1 106 (by decide) (by decide)]; exact g0) e2 (pow_le (A := plM (prP 16 (M8 104)) v) hW (by omega) iF.2.2.1 iF.2.2.2.1 (fun x => by rw [hv x, e2 x, ev_M, Int.mul_assoc]))
        · rw [e1] at w2
          have e4 : M5 104 = M1 104 := w1 104 (by decide) (by decide)
          exact k t M5 (fun a x y z q => by rw [w1 a q z]; exact g1 a x y z q) (by omega) (by rw [e4]; exact g2) (by rw [e4]; exact w2)
    exact ⟨9, key 8 0 M2 (by decide) (fun a _ y _ _ => y1 a y) rfl (fun x => by rw [y1 104 (by decide), hA, Int.pow_zero, Int.one_mul])⟩
  have fst : ∀ u j (M1 : zM), j + u = 16 → (∀ a, a ≠ 106 → M1 a = M a) → (∀ l, l < j → M1 106 l = if l < 8 then M 103 (8 * i + l) else 0) → L_Mo_often_2 P (nI i) (u + 1) (nI j) M1 := by
    intro u
    induction u with
    | zero =>
      intro j M1 hj g1 g2
      have : j = 16 := by omega
      subst this
      refine ⟨fun _ => snd M1 g1 ?_, fun c => absurd (Int32.le_refl _) c⟩
      rw [← hF]
      exact pr_16 (fun l hl => by rw [g2 l (by omega), if_pos hl]) (fun l a b => by rw [g2 l b, if_neg (by omega)])
    | succ u ih =>
      intro j M1 hj g1 g2
      have ij : vp_in (nI j) (zlong 106) := vp_in_nI (N := 16) (by omega) (by decide)
      refine ⟨fun c => absurd c (nI_ge (b := 16) (by omega) (by omega)), fun _ => ⟨fun c => ⟨ij, fun M2 e2 => ?_⟩, fun c => ?_⟩⟩
      · have hj8 : 8 ≤ j := (nI_leI (a := 8) (by decide) (by omega)).mp c
        rw [nI_clamp (by omega)] at e2
        rw [e2, nI_1]
        refine ih (j + 1) _ (by omega) (fun a x => by rw [zput_ne x]; exact g1 a x) (fun l hl => ?_)
        by_cases e : l = j
        · rw [e, zput_eq, if_neg (by omega)]
        · rw [zput_n2 e]; exact g2 l (by omega)
      · have hj8 : j < 8 := Nat.not_le.mp (fun x => c ((nI_leI (a := 8) (by decide) (by omega)).mpr x))
        have e8 : (8 : Int32) * nI i + nI j = nI (8 * i + j) := by rw [show (8 : Int32) = nI 8 from rfl, pk_mul, nI_add]
        rw [e8, nI_clamp (by omega), nI_clamp (by omega), nI_1]
        refine ⟨vp_in_nI (N := 56) (by omega) (by decide), ij, fun M2 e2 => ?_⟩
        rw [e2, g1 103 (by decide)]
        refine ih (j + 1) _ (by omega) (fun a x => by rw [zput_ne x]; exact g1 a x) (fun l hl => ?_)
        by_cases e : l = j
        · rw [e, zput_eq, if_pos hj8]
        · rw [zput_n2 e]; exact g2 l (by omega)
  exact ⟨17, fst 16 0 M (by decide) (fun _ _ => rfl) (fun l hl => absurd hl (Nat.not_lt_zero _))⟩
