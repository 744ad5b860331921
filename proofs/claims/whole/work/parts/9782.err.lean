/-! Lifting: findError. -/
def Lf (M : zM) (i : Nat) : Pl := prP 8 (M (53 + i))
theorem z53 : ∀ i, i < 8 → zlong (52 + 1 + i) = 8 := by decide
theorem dsum_le {dg : Nat → Nat} {j : Nat} : ∀ {c : Nat}, j ≤ c → dsum dg j ≤ dsum dg c
  | 0, h => by
    have : j = 0 := by omega
    rw [this]; exact Nat.le_refl _
  | c + 1, h => by
    by_cases e : j = c + 1
    · rw [e]; exact Nat.le_refl _
    · exact Nat.le_trans (dsum_le (by omega)) (Nat.le_add_right _ _)
theorem Q_congr {A B : Nat → Pl} : ∀ {c : Nat}, (∀ i, i < c → A i = B i) → plQ A c = plQ B c
  | 0, _ => rfl
  | c + 1, h => by
    show plM (plQ A c) (A c) = plM (plQ B c) (B c)
    rw [Q_congr (fun i hi => h i (by omega)), h c (by omega)]
theorem prP_dn {f : Nat → Int64} {n : Nat} (h : ∀ i, n ≤ i → i < 8 → f i = 0) : dl n (prP 8 f) := fun i hi => by
  show pr 8 f i = 0
  rcases Nat.lt_or_ge i 8 with c | c
  · rw [pr_lt c, h i hi c]; rfl
  · exact pr_ge c
theorem s_findError {K : zM → Prop} {q m c n a1 : Nat} {dg : Nat → Nat} {l : Int} {M : zM} (za : zlong a1 = 8) (na : a1 ≠ 70) (hc : c ≤ 8) (hm0 : 0 < m) (hm : m * (q + 2) ≤ 2 ^ 29) (hM : M 51 1 = lN m) (hn : dsum dg c = n) (hn8 : n < 8) (hA : ∀ i, i < c → mon (Lf M i) (dg i)) (hr : ∀ i, i < c → zrw m 8 (M (53 + i))) (hO : ∀ i, i < 8 → (M a1 i).toInt.natAbs ≤ 100000000) (hl0 : 0 < l) (hl1 : l < 100000) (hOn : mt 0 (prP 8 (M a1)) n) (hOl : (prP 8 (M a1)).1 n = l) (hOm : cg (m : Int) (prP 8 (M a1)) (plM (plX l 0) (plQ (Lf M) c)))
    (k : ∀ M' : zM, (∀ a, a ≠ 70 → M' a = M a) → low8 q n (M' 70) → cg ((m * (q + 2) : Nat) : Int) (prP 8 (M a1)) (plA (plM (plX l 0) (plQ (Lf M) c)) (plK m (prP 8 (M' 70)))) → K M') : w_Li_findError a1 (nI c) (lN (m * (q + 2))) M K := by
  have hpos : 0 < m * (q + 2) := Nat.mul_pos hm0 (by omega)
  obtain ⟨q1, q2, q3, q4⟩ := z_lNp (P := m * (q + 2)) hpos (by omega)
  have hmm : m ≤ m * (q + 2) := Nat.le_mul_of_pos_right m (by omega)
  have hOd : dl (n + 1) (prP 8 (M a1)) := fun i hi => by
    obtain ⟨t, ht⟩ := hOn.2 i (by omega)
    rw [ht, Int.zero_mul]
  refine s_Ar_fillJ (n := 8) (by decide) (by decide) (by decide) (fun M2 f1 f2 => s_leadingOf za (d := n) (by rw [f1 a1 na]; exact row_zdg hn8 (by rw [hOl]; omega) hOd) ⟨vp_in_nI (n := 0) (N := 8) (by decide) (by decide), fun M7 e7 => ?_⟩)
  have ec : (0 : Int32).toNatClampNeg = 0 := by decide
  rw [ec, f1 a1 na] at e7
  have hOl' : (M a1 n).toInt = l := by rw [← hOl]; exact (pr_lt hn8).symm
  -- the second loop
  have snd : ∀ (W : zM), (∀ a, a ≠ 70 → W a = M a) → (∀ i, i < 8 → 0 ≤ (W 70 i).toInt ∧ (W 70 i).toInt < 536870912) → dl (n + 1) (prP 8 (W 70)) → cg ((m * (q + 2) : Nat) : Int) (prP 8 (W 70)) (plM (plX l 0) (plQ (Lf M) c)) → ∃ f, L_Li_findError_51 K a1 (lN (m * (q + 2))) f (0 : Int32) W := by
    intro W w1 w2 w3 w4
    -- what each place becomes
    have val : ∀ i, i < 8 → ∃ e : Int, 0 ≤ e ∧ e < (q + 2 : Nat) ∧ (n ≤ i → e = 0) ∧ ((m * (q + 2) : Nat) : Int) ∣ (M a1 i).toInt - (W 70 i).toInt - m * e ∧ ((M a1 i).toInt - (W 70 i).toInt) % ((m * (q + 2) : Nat) : Int) = m * e := fun i hi => by
      have d1 : ((m * (q + 2) : Nat) : Int) ∣ (W 70 i).toInt - (plM (plX l 0) (plQ (Lf M) c)).1 i := by
        have := cg_co w4 i
        have e : (prP 8 (W 70)).1 i = (W 70 i).toInt := pr_lt hi
        rw [e] at this; exact this
      have d2 : (m : Int) ∣ (M a1 i).toInt - (plM (plX l 0) (plQ (Lf M) c)).1 i := by
        have := cg_co hOm i
        have e : (prP 8 (M a1)).1 i = (M a1 i).toInt := pr_lt hi
        rw [e] at this; exact this
      have d3 : (m : Int) ∣ ((m * (q + 2) : Nat) : Int) := ⟨((q + 2 : Nat) : Int), by rw [Int.natCast_mul]⟩
      have d4 : (m : Int) ∣ (M a1 i).toInt - (W 70 i).toInt := by
        have := Int.dvd_sub d2 (Int.dvd_trans d3 d1)
        rw [show (M a1 i).toInt - (plM (plX l 0) (plQ (Lf M) c)).1 i - ((W 70 i).toInt - (plM (plX l 0) (plQ (Lf M) c)).1 i) = (M a1 i).toInt - (W 70 i).toInt by omega] at this
        exact this
      have r0 := Int.emod_nonneg ((M a1 i).toInt - (W 70 i).toInt) (show ((m * (q + 2) : Nat) : Int) ≠ 0 by omega)
      have r1 := Int.emod_lt_of_pos ((M a1 i).toInt - (W 70 i).toInt) (show (0 : Int) < ((m * (q + 2) : Nat) : Int) by omega)
      have r2 : ((m * (q + 2) : Nat) : Int) ∣ (M a1 i).toInt - (W 70 i).toInt - ((M a1 i).toInt - (W 70 i).toInt) % ((m * (q + 2) : Nat) : Int) := Int.dvd_self_sub_emod
      have d5 : (m : Int) ∣ ((M a1 i).toInt - (W 70 i).toInt) % ((m * (q + 2) : Nat) : Int) := by
        have := Int.dvd_sub d4 (Int.dvd_trans d3 r2)
        generalize ((M a1 i).toInt - (W 70 i).toInt) % ((m * (q + 2) : Nat) : Int) = R at *
        rw [show (M a1 i).toInt - (W 70 i).toInt - ((M a1 i).toInt - (W 70 i).toInt - R) = R by omega] at this
        exact this
      obtain ⟨e, he⟩ := d5
      have m0 : (0 : Int) < (m : Int) := by omega
      have e0 : 0 ≤ e := Int.not_lt.mp (fun c => by
        have := Int.mul_neg_of_pos_of_neg m0 c
        omega)
      refine ⟨e, e0, ?_, fun hni => ?_, by rw [← he]; exact r2, he⟩
      · rw [he, Int.natCast_mul] at r1
        exact Int.lt_of_mul_lt_mul_left r1 (by omega)
      · have hz : ((m * (q + 2) : Nat) : Int) ∣ (M a1 i).toInt - (W 70 i).toInt := by
          by_cases hin : i = n
          · have ht : (plM (plX l 0) (plQ (Lf M) c)).1 n = l := by
              have hQ := Q_dmon hA
              rw [hn] at hQ
              have := plM_top (n := 0) (m := n) (a := plX l 0) (dl_X (Nat.succ_pos _)) hQ.1
              rw [hQ.2, Nat.zero_add, Int.mul_one] at this
              exact this
            rw [hin] at d1 ⊢
            rw [ht] at d1
            rw [hOl']
            obtain ⟨y, hy⟩ := d1
            exact ⟨-y, by rw [Int.mul_neg]; omega⟩
          · have a1' : (M a1 i).toInt = 0 := by
              have := hOd i (by omega)
              rw [show (prP 8 (M a1)).1 i = (M a1 i).toInt from pr_lt hi] at this
              exact this
            have a2' : (W 70 i).toInt = 0 := by
              have := w3 i (by omega)
              rw [show (prP 8 (W 70)).1 i = (W 70 i).toInt from pr_lt hi] at this
              exact this
            rw [a1', a2']
            exact ⟨0, by rw [Int.mul_zero]; rfl⟩
        rw [Int.emod_eq_zero_of_dvd hz] at he
        rcases Int.mul_eq_zero.mp he.symm with x | x
        · omega
        · exact x
    have key : ∀ u j (M1 : zM), j + u = 8 → (∀ a, a ≠ 70 → M1 a = M a) → (∀ i, j ≤ i → i < 8 → M1 70 i = W 70 i) → (∀ i, i < j → 0 ≤ (M1 70 i).toInt ∧ (M1 70 i).toInt < (q + 2 : Nat) ∧ (n ≤ i → (M1 70 i).toInt = 0) ∧ ((m * (q + 2) : Nat) : Int) ∣ (M a1 i).toInt - (W 70 i).toInt - m * (M1 70 i).toInt) → L_Li_findError_51 K a1 (lN (m * (q + 2))) (u + 1) (nI j) M1 := by
      intro u
      induction u with
      | zero =>
        intro j M1 hj g1 g2 g3
        have : j = 8 := by omega
        subst this
        refine ⟨fun _ => k M1 g1 ⟨fun i hi => ⟨(g3 i hi).1, (g3 i hi).2.1⟩, fun i a b => ?_⟩ ?_, fun e => absurd (Int32.le_refl _) e⟩
        · rw [← Int64.toInt_inj, (g3 i b).2.2.1 a]; rfl
        · refine cg_trans (cg_of (b := plA (prP 8 (W 70)) (plK m (prP 8 (M1 70)))) (fun i => ?_)) (cg_A w4 cg_refl)
          show _ ∣ pr 8 (M a1) i - (pr 8 (W 70) i + m * pr 8 (M1 70) i)
          rcases Nat.lt_or_ge i 8 with x | x
          · rw [pr_lt x, pr_lt x, pr_lt x]
            have := (g3 i x).2.2.2
            rw [show (M a1 i).toInt - ((W 70 i).toInt + m * (M1 70 i).toInt) = (M a1 i).toInt - (W 70 i).toInt - m * (M1 70 i).toInt by omega]
            exact this
          · rw [pr_ge x, pr_ge x, pr_ge x]
            exact ⟨0, by rw [Int.mul_zero, Int.mul_zero]; rfl⟩
      | succ u ih =>
        intro j M1 hj g1 g2 g3
        obtain ⟨e, v1, v2, v3, v4, v5⟩ := val j (by omega)
        have hOj := hO j (by omega)
        have hWj := w2 j (by omega)
        refine ⟨fun x => absurd x (nI_ge (b := 8) (by omega) (by omega)), fun _ => ?_⟩
        rw [nI_clamp (by omega), g1 a1 na, g2 j (Nat.le_refl _) (by omega), g1 51 (by decide), hM]
        have es : (M a1 j - W 70 j).toInt = (M a1 j).toInt - (W 70 j).toInt := zx_sub (by omega) (by omega)
        have er : (zrs (M a1 j - W 70 j) (lN (m * (q + 2)))).toInt = m * e := by
          rw [zrs_e q2 (by rw [es]; omega), es, q1]; exact v5
        obtain ⟨t1, t2, t3, t4⟩ := z_lNp (P := m) hm0 (by omega)
        have i70 : vp_in (nI j) (zlong 70) := vp_in_nI (N := 8) (by omega) (by decide)
        refine ⟨by rw [za]; exact vp_in_nI (by omega) (by decide), i70, s_residue q3 ⟨fun _ => ⟨t4, i70, fun M14 e14 => ?_⟩, fun x => absurd t3 x⟩⟩
        have me : (m : Int) * e < m * (q + 2 : Nat) := Int.mul_lt_mul_of_pos_left v2 (by omega)
        rw [← Int.natCast_mul] at me
        have m1 : 0 ≤ (m : Int) * e := Int.mul_nonneg (by omega) v1
        have ed : (zrs (M a1 j - W 70 j) (lN (m * (q + 2))) / lN m).toInt = e := by
          rw [zx_div (by rw [er]; omega), er, t1, Int.mul_tdiv_cancel_left e (by omega)]
        rw [e14, nI_1]
        refine ih (j + 1) _ (by omega) (fun a x => by rw [zput_ne x]; exact g1 a x) (fun i a b => by rw [zput_n2 (by omega)]; exact g2 i (by omega) b) (fun i hi => ?_)
        by_cases x : i = j
        · subst x
          rw [zput_eq, ed]
          exact ⟨v1, v2, v3, v4⟩
        · rw [zput_n2 x]; exact g3 i (by omega)
    exact ⟨9, key 8 0 W (by decide) w1 (fun _ _ _ => rfl) (fun i hi => absurd hi (Nat.not_lt_zero _))⟩
  -- the first loop
  have fst : ∀ u j (M1 : zM), j + u = c → (∀ a, a ≠ 70 → M1 a = M a) → (∀ i, i < 8 → 0 ≤ (M1 70 i).toInt ∧ (M1 70 i).toInt < 536870912) → dl (dsum dg j + 1) (prP 8 (M1 70)) → cg ((m * (q + 2) : Nat) : Int) (prP 8 (M1 70)) (plM (plX l 0) (plQ (Lf M) j)) → L_Li_findError_21 K a1 (nI c) (lN (m * (q + 2))) (u + 1) (nI j) M1 := by
    intro u
    induction u with
    | zero =>
      intro j M1 hj g1 g2 g3 g4
      have : j = c := by omega
      subst this
      rw [hn] at g3
      exact ⟨fun _ => snd M1 g1 g2 g3 g4, fun e => absurd (Int32.le_refl _) e⟩
    | succ u ih =>
      intro j M1 hj g1 g2 g3 g4
      refine ⟨fun e => absurd e (nI_ge (by omega) (by omega)), fun _ => ⟨vp_in_nI (N := 8) (by omega) (by decide), ?_⟩⟩
      rw [nI_clamp (by omega)]
      have ej : M1 (52 + 1 + j) = M (53 + j) := by rw [show 52 + 1 + j = 53 + j by omega]; exact g1 _ (by omega)
      have hj1 := dsum_le (dg := dg) (show j + 1 ≤ c by omega)
      have hj2 : dsum dg (j + 1) = dsum dg j + dg j := rfl
      have hmj := hA j (by omega)
      refine s_multiplyBy (h := dg j) (by decide) (z53 j (by omega)) (by omega) (by rw [ej]; exact mon_zdg (by omega) hmj) hpos hm g2 (fun i hi => by rw [ej]; have := hr j (by omega) i hi; omega) (fun M9 w1 w2 => ?_)
      rw [ej] at w2
      have dm : dl (dsum dg (j + 1) + 1) (plM (Lf M j) (prP 8 (M1 70))) := dl_M hmj.1 g3 (by omega)
      rw [nI_1]
      refine ih (j + 1) M9 (by omega) (fun a x => by rw [w1 a x]; exact g1 a x) (fun i hi => ?_) (prP_dn (fun i a b => ?_)) ?_
      · rw [w2 i hi]
        have := z_emod hpos (pmul (pr 8 (M (53 + j))) (pr 8 (M1 70)) i)
        omega
      · have : pmul (pr 8 (M (53 + j))) (pr 8 (M1 70)) i = 0 := dm i a
        rw [← Int64.toInt_inj, w2 i b, this, Int.zero_emod]; rfl
      · have c1 : cg ((m * (q + 2) : Nat) : Int) (prP 8 (M9 70)) (plM (Lf M j) (prP 8 (M1 70))) := cg_of (fun i => by
          show _ ∣ pr 8 (M9 70) i - pmul (pr 8 (M (53 + j))) (pr 8 (M1 70)) i
          rcases Nat.lt_or_ge i 8 with x | x
          · rw [pr_lt x, w2 i x]; exact mod_dvd _ _
          · have : pmul (pr 8 (M (53 + j))) (pr 8 (M1 70)) i = 0 := dm i (by omega)
            rw [pr_ge x, this]
            exact ⟨0, by rw [Int.mul_zero]; rfl⟩)
        refine cg_trans c1 (cg_trans (cg_M cg_refl g4) (cg_eq (fun x => ?_)))
        show ev (plM (Lf M j) (plM (plX l 0) (plQ (Lf M) j))) x = ev (plM (plX l 0) (plM (plQ (Lf M) j) (Lf M j))) x
        simp only [ev_M]
        generalize ev (Lf M j) x = A
        generalize ev (plX l 0) x = B
        generalize ev (plQ (Lf M) j) x = C
        grind
  have va : ∀ i, i < 8 → (M7 70 i).toInt = if i = 0 then l else 0 := fun i hi => by
    rw [e7]
    by_cases e : i = 0
    · subst e; rw [zput_eq, if_pos rfl, hOl']
    · rw [zput_n2 e, if_neg e, f2 i hi]; rfl
  have eone : prP 8 (M7 70) = plX l 0 := pl_ext (fun i => by
    show pr 8 (M7 70) i = if i = 0 then l else 0
    rcases Nat.lt_or_ge i 8 with x | x
    · rw [pr_lt x, va i x]
    · rw [pr_ge x, if_neg (by omega)])
  refine ⟨c + 1, fst c 0 M7 (by omega) (fun a x => by rw [e7, zput_ne x, f1 a x]) (fun i hi => ?_) ?_ ?_⟩
  · rw [va i hi]
    split <;> omega
  · rw [eone]; exact dl_X (Nat.succ_pos _)
  · rw [eone]
    refine cg_eq (fun x => ?_)
    show _ = ev (plM (plX l 0) (plX 1 0)) x
    simp only [ev_M, ev_X, Int.pow_zero, Int.mul_one]
