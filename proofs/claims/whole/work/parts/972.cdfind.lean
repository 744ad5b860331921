/-! CommonDivisor.find as a whole. -/
theorem ipow_le {x X : Int} {k K : Nat} (h0 : 0 ≤ x) (h1 : x ≤ X) (h2 : 1 ≤ X) (hk : k ≤ K) : x ^ k ≤ X ^ K := by
  have key : ∀ d, x ^ k ≤ X ^ (k + d) := by
    intro d
    induction d with
    | zero =>
      clear hk
      induction k with
      | zero => rw [Int.pow_zero, Nat.add_zero, Int.pow_zero]; exact Int.le_refl _
      | succ k ih =>
        rw [Int.pow_succ, Nat.add_zero, Int.pow_succ]
        rw [Nat.add_zero] at ih
        exact Int.mul_le_mul ih h1 h0 (Int.pow_nonneg (by omega))
    | succ d ih =>
      rw [← Nat.add_assoc, Int.pow_succ]
      have h3 : 0 ≤ X ^ (k + d) := Int.pow_nonneg (show 0 ≤ X by omega)
      have := Int.mul_le_mul_of_nonneg_left h2 h3
      omega
  have := key (K - k)
  rw [show k + (K - k) = K by omega] at this
  exact this
theorem gz_scale {A B A' B' G a b : Pl} {r s : Int} (h : gz A B G a b) (hr : r ≠ 0) (hs : s ≠ 0) (hA : ∀ i, A.1 i = r * A'.1 i) (hB : ∀ i, B.1 i = s * B'.1 i) : ∃ a' b', gz A' B' G a' b' := by
  obtain ⟨hG, h1, h2, u, v, c, hc, h3⟩ := h
  have eA : A = plK r A' := pl_ext hA
  have eB : B = plK s B' := pl_ext hB
  obtain ⟨a', ha⟩ := prim_div (A := A') hG _ r a rfl hr (fun x => by rw [← ev_K, ← eA]; exact h1 x)
  obtain ⟨b', hb⟩ := prim_div (A := B') hG _ s b rfl hs (fun x => by rw [← ev_K, ← eB]; exact h2 x)
  exact ⟨a', b', hG, ha, hb, plK r u, plK s v, c, hc, fun x => by
    have := h3 x
    rw [eA, eB, ev_K, ev_K] at this
    rw [ev_K, ev_K]
    grind⟩
theorem ab_scale {r x : Int} (hr : r ≠ 0) : ab x ≤ ab (r * x) := by
  rw [ab_mul, Int.mul_comm]
  exact ab_ge1 hr
/-- what find wants to know of its two rows -/
def gall (A B G : Pl) (n m g : Nat) : Prop := ∀ (A' B' : Pl) (r s : Int), r ≠ 0 → s ≠ 0 → (∀ i, A.1 i = r * A'.1 i) → (∀ i, B.1 i = s * B'.1 i) → ∃ a' b', gok A' B' G a' b' n m g
theorem gall_core {A B G a b : Pl} {n m g : Nat} {SA SB : Int} (hz : gz A B G a b) (A1 : A.1 n ≠ 0) (A2 : dl (n + 1) A) (B1 : B.1 m ≠ 0) (B2 : dl (m + 1) B) (G1 : 0 < G.1 g) (G2 : dl (g + 1) G) (n7 : n ≤ 7) (m7 : m ≤ 7) (sa1 : 1 ≤ SA) (sb1 : 1 ≤ SB) {ja jb : Nat} (hja : m ≤ ja) (hjb : n ≤ jb) (hC : SA ^ ja * SB ^ jb < lprod (bigC.map (fun p : Nat => (p : Int)))) (hM : SA ^ ja * SB ^ jb < lprod (bigM.map (fun p : Nat => (p : Int)))) (la : ab (A.1 n) ≤ 699993) (lb : ab (B.1 m) ≤ 699993)
    (oa : ∀ A' : Pl, (∃ i, A'.1 i ≠ 0) → dl (n + 1) A' → (∀ i, ab (A'.1 i) ≤ ab (A.1 i)) → okb A' ∧ nm A' ≤ SA) (ob : ∀ B' : Pl, (∃ i, B'.1 i ≠ 0) → dl (m + 1) B' → (∀ i, ab (B'.1 i) ≤ ab (B.1 i)) → okb B' ∧ nm B' ≤ SB) : gall A B G n m g := by
  intro A' B' r s hr hs hA hB
  obtain ⟨a', b', hz'⟩ := gz_scale hz hr hs hA hB
  have A1' : A'.1 n ≠ 0 := fun c => A1 (by rw [hA n, c, Int.mul_zero])
  have B1' : B'.1 m ≠ 0 := fun c => B1 (by rw [hB m, c, Int.mul_zero])
  have A2' : dl (n + 1) A' := fun i hi => by
    have := A2 i hi
    rw [hA i] at this
    rcases Int.mul_eq_zero.mp this with c | c
    · exact absurd c hr
    · exact c
  have B2' : dl (m + 1) B' := fun i hi => by
    have := B2 i hi
    rw [hB i] at this
    rcases Int.mul_eq_zero.mp this with c | c
    · exact absurd c hs
    · exact c
  have ba : ∀ i, ab (A'.1 i) ≤ ab (A.1 i) := fun i => by rw [hA i]; exact ab_scale hr
  have bb : ∀ i, ab (B'.1 i) ≤ ab (B.1 i) := fun i => by rw [hB i]; exact ab_scale hs
  obtain ⟨oa1, oa2⟩ := oa A' ⟨n, A1'⟩ A2' ba
  obtain ⟨ob1, ob2⟩ := ob B' ⟨m, B1'⟩ B2' bb
  have hp : nm A' ^ (m - g) * nm B' ^ (n - g) ≤ SA ^ ja * SB ^ jb := Int.mul_le_mul (ipow_le (nm_nn _) oa2 sa1 (by omega)) (ipow_le (nm_nn _) ob2 sb1 (by omega)) (Int.pow_nonneg (nm_nn _)) (Int.pow_nonneg (by omega))
  exact ⟨a', b', hz', A1', A2', B1', B2', G1, G2, n7, m7, oa1, ob1, Int.le_trans (ba n) la, Int.le_trans (bb m) lb, by omega, by omega⟩
theorem gall_reg {A B G a b : Pl} {n m g : Nat} (hz : gz A B G a b) (A1 : A.1 n ≠ 0) (A2 : dl (n + 1) A) (B1 : B.1 m ≠ 0) (B2 : dl (m + 1) B) (G1 : 0 < G.1 g) (G2 : dl (g + 1) G) (n7 : n ≤ 7) (m7 : m ≤ 7) (ha : ∀ i, ab (A.1 i) ≤ 99999) (hb : ∀ i, ab (B.1 i) ≤ 99999) : gall A B G n m g :=
  gall_core (SA := 799992) (SB := 799992) (ja := 7) (jb := 7) hz A1 A2 B1 B2 G1 G2 n7 m7 (by decide) (by decide) m7 n7 (by decide +kernel) (by decide +kernel) (by have := ha n; omega) (by have := hb m; omega)
    (fun A' h0 d b => ⟨okb_reg (dl_mono (by omega) d) h0 (fun i => Int.le_trans (b i) (ha i)), nm_reg (dl_mono (by omega) d) (fun i => Int.le_trans (b i) (ha i))⟩)
    (fun B' h0 d b => ⟨okb_reg (dl_mono (by omega) d) h0 (fun i => Int.le_trans (b i) (hb i)), nm_reg (dl_mono (by omega) d) (fun i => Int.le_trans (b i) (hb i))⟩)
theorem gall_slope {A B G a b : Pl} {n m g : Nat} (hz : gz A B G a b) (A1 : A.1 n ≠ 0) (A2 : dl (n + 1) A) (B1 : B.1 m ≠ 0) (B2 : dl (m + 1) B) (G1 : 0 < G.1 g) (G2 : dl (g + 1) G) (n7 : n ≤ 7) (m6 : m ≤ 6) (ha : ∀ i, ab (A.1 i) ≤ 99999) (hb : ∀ i : Nat, ab (B.1 i) ≤ (i + 1) * 99999) : gall A B G n m g :=
  gall_core (SA := 799992) (SB := 2799972) (ja := 6) (jb := 7) hz A1 A2 B1 B2 G1 G2 n7 (by omega) (by decide) (by decide) m6 n7 (by decide +kernel) (by decide +kernel) (by have := ha n; omega) (by have := hb m; omega)
    (fun A' h0 d b => ⟨okb_reg (dl_mono (by omega) d) h0 (fun i => Int.le_trans (b i) (ha i)), nm_reg (dl_mono (by omega) d) (fun i => Int.le_trans (b i) (ha i))⟩)
    (fun B' h0 d b => ⟨okb_slope (dl_mono (by omega) d) h0 (fun i => Int.le_trans (b i) (hb i)), nm_slope (dl_mono (by omega) d) (fun i => Int.le_trans (b i) (hb i))⟩)
theorem s_find89 {K : Nat → zM → Prop} {v : Int64} {M : zM} (k : ∀ M' : zM, (∀ a, a ≠ 13 → M' a = M a) → (∀ i, i < 8 → M' 13 i = M 13 i * v) → K 13 M') : ∃ n, L_CD_find_89 K v n (0 : Int32) M := by
  have z13 : zlong 13 = 8 := by decide
  have key : ∀ d j (M1 : zM), j + d = 8 → (∀ a, a ≠ 13 → M1 a = M a) → (∀ i, i < j → M1 13 i = M 13 i * v) → (∀ i, j ≤ i → M1 13 i = M 13 i) → ∃ n, L_CD_find_89 K v n (nI j) M1 := by
    intro d
    induction d with
    | zero =>
      intro j M1 hj g1 g2 _
      have : j = 8 := by omega
      subst this
      exact ⟨1, ⟨fun _ => k M1 g1 g2, fun h => absurd (by decide) h⟩⟩
    | succ d ih =>
      intro j M1 hj g1 g2 g3
      obtain ⟨n, hn⟩ := ih (j + 1) (zput M1 13 j (M1 13 j * v)) (by omega) (fun a x => by rw [zput_ne x]; exact g1 a x) (fun i hi => by
        by_cases e : i = j
        · subst e; rw [zput_eq, g3 i (Nat.le_refl _)]
        · rw [zput_n2 e]; exact g2 i (by omega)) (fun i hi => by rw [zput_n2 (by omega)]; exact g3 i (by omega))
      have i1 : vp_in (nI j) (zlong 13) := by rw [z13]; exact vp_in_nI (by omega) (by decide)
      refine ⟨n + 1, ⟨fun h => absurd h (nI_ge (b := 8) (by omega) (by decide)), fun _ => ⟨i1, i1, fun M31 e31 => ?_⟩⟩⟩
      rw [nI_clamp (by omega)] at e31
      rw [e31, nI_1]
      exact hn
  exact key 8 0 M (by omega) (fun _ _ => rfl) (fun i hi => by omega) (fun _ _ => rfl)
theorem s_copyInto {K : zM → Prop} {a0 a1 : Nat} {M : zM} (h0 : zlong a0 = 8) (h1 : zlong a1 = 8) (k : ∀ M' : zM, (∀ a, a ≠ a1 → M' a = M a) → (∀ i, i < 8 → M' a1 i = M a0 i) → K M') : w_Ro_copyInto a0 a1 M K :=
  ⟨by omega, by omega, fun M1 e => by rw [e]; exact k _ (fun a ha => zcpy_ne ha) (fun i hi => zcpy8 hi)⟩
/-- both rows are not 0 -/
theorem s_CD_find {K : Nat → zM → Prop} {a1 a2 : Nat} {M : zM} {G : Pl} {n m g : Nat} (h1 : zlong a1 = 8) (h2 : zlong a2 = 8) (r1 : ¬ (11 ≤ a1 ∧ a1 ≤ 16)) (r2 : ¬ (11 ≤ a2 ∧ a2 ≤ 16)) (hg : gall (prP 8 (M a1)) (prP 8 (M a2)) G n m g) (z1 : zdg (M a1) 8 ≠ 0) (z2 : zdg (M a2) 8 ≠ 0) (b1 : ∀ i, i < 8 → zab (M a1 i) ≤ 699993) (b2 : ∀ i, i < 8 → zab (M a2 i) ≤ 699993)
    (k : ∀ M' : zM, (∀ a, ¬ (11 ≤ a ∧ a ≤ 16) → M' a = M a) → (∀ i, i < 8 → (M' 13 i).toInt = (Nat.gcd (zgc (M a1) 8) (zgc (M a2) 8) : Int) * G.1 i) → K 13 M') : w_CD_find a1 a2 M K := by
  have z11 : zlong 11 = 8 := by decide
  have z12 : zlong 12 = 8 := by decide
  obtain ⟨n', hn'⟩ : ∃ n', zdg (M a1) 8 = n' + 1 := ⟨zdg (M a1) 8 - 1, by omega⟩
  obtain ⟨m', hm'⟩ : ∃ m', zdg (M a2) 8 = m' + 1 := ⟨zdg (M a2) 8 - 1, by omega⟩
  obtain ⟨n1, n2, n3⟩ := zdg_s hn'
  obtain ⟨m1, m2, m3⟩ := zdg_s hm'
  refine s_copyInto h1 z11 (fun Ma f1 f2 => s_copyInto h2 z12 (fun Mb f3 f4 => ?_))
  have v11 : ∀ i, i < 8 → Mb 11 i = M a1 i := fun i hi => by rw [f3 11 (by decide), f2 i hi]
  have v12 : ∀ i, i < 8 → Mb 12 i = M a2 i := fun i hi => by rw [f4 i hi, f1 a2 (by omega)]
  refine s_makePrimitive z11 (fun i hi => by rw [v11 i hi]; have := b1 i hi; omega) (by rw [zdg_congr v11]; exact hn') (fun r7 Mc f5 f6 f7 f8 f9 => ?_)
  have c12 : Mc 12 = Mb 12 := f5 12 (by decide)
  refine s_makePrimitive z12 (fun i hi => by rw [c12, v12 i hi]; have := b2 i hi; omega) (by rw [c12, zdg_congr v12]; exact hm') (fun r10 Md f10 f11 f12 f13 f14 => ?_)
  have d11 : Md 11 = Mc 11 := f10 11 (by decide)
  have g7 : r7.toInt.natAbs = zgc (M a1) 8 := by rw [f6]; exact zgc_congr 8 v11
  have g10 : r10.toInt.natAbs = zgc (M a2) 8 := by rw [f11, c12]; exact zgc_congr 8 v12
  have c7 := zgc_le (f := M a1) (B := 699993) 8 (fun i hi => b1 i hi)
  have c10 := zgc_le (f := M a2) (B := 699993) 8 (fun i hi => b2 i hi)
  have p7 := zgc_pos n1 n2
  have p10 := zgc_pos m1 m2
  refine s_Ro_greatestDivisor (by unfold zab; omega) (by unfold zab; omega) ?_
  have eg0 : Nat.gcd (zab r7) (zab r10) = Nat.gcd (zgc (M a1) 8) (zgc (M a2) 8) := by
    unfold zab
    rw [g7, g10]
  rw [eg0]
  have hA : ∀ i, (prP 8 (M a1)).1 i = r7.toInt * (prP 8 (Md 11)).1 i := fun i => by
    show pr 8 (M a1) i = r7.toInt * pr 8 (Md 11) i
    rcases Nat.lt_or_ge i 8 with c | c
    · rw [pr_lt c, pr_lt c, d11, ← f7 i c, v11 i c]
    · rw [pr_ge c, pr_ge c, Int.mul_zero]
  have hB : ∀ i, (prP 8 (M a2)).1 i = r10.toInt * (prP 8 (Md 12)).1 i := fun i => by
    show pr 8 (M a2) i = r10.toInt * pr 8 (Md 12) i
    rcases Nat.lt_or_ge i 8 with c | c
    · rw [pr_lt c, pr_lt c, ← f12 i c, c12, v12 i c]
    · rw [pr_ge c, pr_ge c, Int.mul_zero]
  obtain ⟨a', b', hok⟩ := hg (prP 8 (Md 11)) (prP 8 (Md 12)) r7.toInt r10.toInt (by omega) (by omega) hA hB
  obtain ⟨_, bb2, _, _⟩ := gok_b hok
  have zz : ∀ (c : Nat) (d : Nat), d < 8 → 0 < (Md c d).toInt → ∃ e, zdg (Md c) 8 = e + 1 := fun c d hd h0 => by
    rcases Nat.eq_zero_or_pos (zdg (Md c) 8) with e | e
    · exfalso
      rw [zdg_0 e d hd] at h0
      exact absurd h0 (by decide)
    · exact ⟨zdg (Md c) 8 - 1, by omega⟩
  obtain ⟨e12, he12⟩ := zz 12 m' m1 f13
  obtain ⟨e11, he11⟩ := zz 11 n' n1 (by rw [d11]; exact f8)
  have le12 := zdg_le (Md 12) 8
  have le11 := zdg_le (Md 11) 8
  refine s_Ro_degreeOf z12 (by decide) (by decide) ?_
  rw [he12, pk_m1]
  refine ⟨fun _ => s_Ro_degreeOf z11 (by decide) (by decide) ?_, fun c => absurd (nI_pos' (by omega)) c⟩
  rw [he11, pk_m1]
  refine ⟨fun _ => s_findPrimitive hok (fun Me f15 f16 => s_find89 (fun Mf f17 f18 => ?_)), fun c => absurd (nI_pos' (by omega)) c⟩
  refine k Mf (fun a ha => ?_) (fun i hi => ?_)
  · rw [f17 a (by omega), f15 a (by omega), f10 a (by omega), f5 a (by omega), f3 a (by omega), f1 a (by omega)]
  · have lle : Nat.gcd (zgc (M a1) 8) (zgc (M a2) 8) ≤ 699993 := Nat.le_trans (Nat.gcd_le_left _ p7) c7
    have li : (lN (Nat.gcd (zgc (M a1) 8) (zgc (M a2) 8))).toInt = (Nat.gcd (zgc (M a1) 8) (zgc (M a2) 8) : Int) := pk_lT (by omega)
    generalize Nat.gcd (zgc (M a1) 8) (zgc (M a2) 8) = l at lle li f18 ⊢
    have hb := bb2 i
    have hm : (G.1 i * (l : Int)).natAbs ≤ 100000000 * 699993 := by
      rw [Int.natAbs_mul]
      unfold ab at hb
      exact Nat.mul_le_mul (by omega) (by omega)
    rw [f18 i hi, zx_mul (by rw [f16 i hi, li]; omega) (by rw [f16 i hi, li]; omega), f16 i hi, li, Int.mul_comm]
/-- the sign of the leading number -/
def zsgn (f : Nat → Int64) : Int := if 0 ≤ (f (zdg f 8 - 1)).toInt then 1 else -1
theorem zsgn_of {f g : Nat → Int64} {r : Int} {d i : Nat} (hd : zdg f 8 = d + 1) (h : ∀ i, i < 8 → (f i).toInt = r * (g i).toInt) (h0 : 0 < (g d).toInt) (hr : r ≠ 0) (hi : i < 8) : (g i).toInt * (r.natAbs : Int) = zsgn f * (f i).toInt := by
  obtain ⟨g1, _, _⟩ := zdg_s hd
  unfold zsgn
  rw [hd, show d + 1 - 1 = d by omega, h d g1, h i hi]
  rcases Int.lt_or_gt_of_ne hr with c | c
  · have := Int.mul_neg_of_neg_of_pos c h0
    rw [if_neg (by omega), show (r.natAbs : Int) = -r by omega]
    grind
  · have := Int.mul_pos c h0
    rw [if_pos (by omega), show (r.natAbs : Int) = r by omega]
    grind
theorem s_CD_find0 {K : Nat → zM → Prop} {a1 a2 : Nat} {M : zM} (h1 : zlong a1 = 8) (h2 : zlong a2 = 8) (r1 : ¬ (11 ≤ a1 ∧ a1 ≤ 16)) (r2 : ¬ (11 ≤ a2 ∧ a2 ≤ 16)) (hz : zdg (M a1) 8 = 0 ∨ zdg (M a2) 8 = 0) (b1 : ∀ i, i < 8 → zab (M a1 i) ≤ 699993) (b2 : ∀ i, i < 8 → zab (M a2 i) ≤ 699993)
    (k : ∀ M' : zM, (∀ a, ¬ (11 ≤ a ∧ a ≤ 16) → M' a = M a) → (∀ i, i < 8 → (M' 13 i).toInt = zsgn (M (if zdg (M a2) 8 = 0 then a1 else a2)) * (M (if zdg (M a2) 8 = 0 then a1 else a2) i).toInt) → K 13 M') : w_CD_find a1 a2 M K := by
  have z11 : zlong 11 = 8 := by decide
  have z12 : zlong 12 = 8 := by decide
  have z13 : zlong 13 = 8 := by decide
  refine s_copyInto h1 z11 (fun Ma f1 f2 => s_copyInto h2 z12 (fun Mb f3 f4 => ?_))
  have v11 : ∀ i, i < 8 → Mb 11 i = M a1 i := fun i hi => by rw [f3 11 (by decide), f2 i hi]
  have v12 : ∀ i, i < 8 → Mb 12 i = M a2 i := fun i hi => by rw [f4 i hi, f1 a2 (by omega)]
  have fb : ∀ a, ¬ (11 ≤ a ∧ a ≤ 16) → Mb a = M a := fun a ha => by rw [f3 a (by omega), f1 a (by omega)]
  have mulv : ∀ (x : Int64) (r : Int64) (y : Int), (x.toInt * (r.toInt.natAbs : Int)) = y → y.natAbs < 2 ^ 62 → r.toInt.natAbs < 2 ^ 62 → (x * lN r.toInt.natAbs).toInt = y := fun x r y e hy hr => by
    have li : (lN r.toInt.natAbs).toInt = (r.toInt.natAbs : Int) := pk_lT (by omega)
    rw [zx_mul (by rw [li, e]; omega) (by rw [li, e]; omega), li, e]
  have zsb : ∀ f : Nat → Int64, ∀ x : Int, (zsgn f * x).natAbs = x.natAbs := fun f x => by
    rw [Int.natAbs_mul]
    unfold zsgn
    split
    · show 1 * _ = _; omega
    · show 1 * _ = _; omega
  by_cases c2 : zdg (M a2) 8 = 0
  · rw [if_pos c2] at k
    by_cases c1 : zdg (M a1) 8 = 0
    · refine s_makePrimitive0 z11 (by rw [zdg_congr v11]; exact c1) (s_makePrimitive0 z12 (by rw [zdg_congr v12]; exact c2) (s_Ro_greatestDivisor (by decide) (by decide) (s_Ro_degreeOf z12 (by decide) (by decide) ?_)))
      rw [zdg_congr v12, c2]
      refine ⟨fun c => absurd c (by decide), fun _ => s_copyInto z11 z13 (fun Mc f5 f6 => s_find89 (fun Md f7 f8 => k Md (fun a ha => by rw [f7 a (by omega), f5 a (by omega)]; exact fb a ha) (fun i hi => ?_)))⟩
      rw [f8 i hi, f6 i hi, v11 i hi, zdg_0 c1 i hi]
      show ((0 : Int64) * _).toInt = _ * (0 : Int)
      rw [Int64.zero_mul, Int.mul_zero]
      rfl
    · obtain ⟨d, hd⟩ : ∃ d, zdg (M a1) 8 = d + 1 := ⟨zdg (M a1) 8 - 1, by omega⟩
      obtain ⟨g1, g2, g3⟩ := zdg_s hd
      refine s_makePrimitive z11 (fun i hi => by rw [v11 i hi]; have := b1 i hi; omega) (by rw [zdg_congr v11]; exact hd) (fun r7 Mc f5 f6 f7 f8 f9 => ?_)
      have g7 : r7.toInt.natAbs = zgc (M a1) 8 := by rw [f6]; exact zgc_congr 8 v11
      have c7 := zgc_le (f := M a1) (B := 699993) 8 (fun i hi => b1 i hi)
      have p7 := zgc_pos g1 g2
      have c12 : Mc 12 = Mb 12 := f5 12 (by decide)
      refine s_makePrimitive0 z12 (by rw [c12, zdg_congr v12]; exact c2) (s_Ro_greatestDivisor (by unfold zab; omega) (by decide) (s_Ro_degreeOf z12 (by decide) (by decide) ?_))
      rw [c12, zdg_congr v12, c2]
      refine ⟨fun c => absurd c (by decide), fun _ => s_copyInto z11 z13 (fun Md f10 f11 => s_find89 (fun Me f12 f13 => k Me (fun a ha => by rw [f12 a (by omega), f10 a (by omega), f5 a (by omega)]; exact fb a ha) (fun i hi => ?_)))⟩
      rw [f13 i hi, f11 i hi, show Nat.gcd (zab r7) (zab 0) = r7.toInt.natAbs from Nat.gcd_zero_right _]
      refine mulv _ _ _ ?_ ?_ (by omega)
      · have := zsgn_of (f := M a1) (g := Mc 11) (r := r7.toInt) hd (fun j hj => by rw [← v11 j hj]; exact f7 j hj) f8 (by omega) hi
        exact this
      · rw [zsb]
        have := b1 i hi
        unfold zab at this
        omega
  · rw [if_neg c2] at k
    have c1 : zdg (M a1) 8 = 0 := by rcases hz with h | h; exact h; exact absurd h c2
    obtain ⟨d, hd⟩ : ∃ d, zdg (M a2) 8 = d + 1 := ⟨zdg (M a2) 8 - 1, by omega⟩
    obtain ⟨g1, g2, g3⟩ := zdg_s hd
    refine s_makePrimitive0 z11 (by rw [zdg_congr v11]; exact c1) (s_makePrimitive z12 (fun i hi => by rw [v12 i hi]; have := b2 i hi; omega) (by rw [zdg_congr v12]; exact hd) (fun r10 Mc f5 f6 f7 f8 f9 => ?_))
    have g7 : r10.toInt.natAbs = zgc (M a2) 8 := by rw [f6]; exact zgc_congr 8 v12
    have c7 := zgc_le (f := M a2) (B := 699993) 8 (fun i hi => b2 i hi)
    have p7 := zgc_pos g1 g2
    have c11 : Mc 11 = Mb 11 := f5 11 (by decide)
    refine s_Ro_greatestDivisor (by decide) (by unfold zab; omega) (s_Ro_degreeOf z12 (by decide) (by decide) ?_)
    have zz : ∃ e, zdg (Mc 12) 8 = e + 1 := by
      rcases Nat.eq_zero_or_pos (zdg (Mc 12) 8) with e | e
      · exfalso
        rw [zdg_0 e d g1] at f8
        exact absurd f8 (by decide)
      · exact ⟨zdg (Mc 12) 8 - 1, by omega⟩
    obtain ⟨e12, he12⟩ := zz
    have le12 := zdg_le (Mc 12) 8
    rw [he12, pk_m1]
    refine ⟨fun _ => s_Ro_degreeOf z11 (by decide) (by decide) ?_, fun c => absurd (nI_pos' (by omega)) c⟩
    rw [c11, zdg_congr v11, c1]
    refine ⟨fun c => absurd c (by decide), fun _ => s_copyInto z12 z13 (fun Md f10 f11 => s_find89 (fun Me f12 f13 => k Me (fun a ha => by rw [f12 a (by omega), f10 a (by omega), f5 a (by omega)]; exact fb a ha) (fun i hi => ?_)))⟩
    rw [f13 i hi, f11 i hi, show Nat.gcd (zab 0) (zab r10) = r10.toInt.natAbs from Nat.gcd_zero_left _]
    refine mulv _ _ _ ?_ ?_ (by omega)
    · have := zsgn_of (f := M a2) (g := Mc 12) (r := r10.toInt) hd (fun j hj => by rw [← v12 j hj]; exact f7 j hj) f8 (by omega) hi
      exact this
    · rw [zsb]
      have := b2 i hi
      unfold zab at this
      omega
