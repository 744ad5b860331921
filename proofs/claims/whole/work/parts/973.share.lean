/-! The reference's greatest common divisor. -/
def zgr (N : zN) : Prop := ∀ t, t < 10 → N 118 t = nI (bigM.getD t 0)
theorem bigM_ix : ∀ p, p ∈ bigM → ∃ j, j < 10 ∧ bigM.getD j 0 = p := by decide
theorem bigM_in : ∀ j, j < 10 → bigM.getD j 0 ∈ bigM := by decide
/-- the candidate for the leading number l -/
def cnd (P : Nat) (x : Nat → Int64) (l d : Nat) (c : Nat → Int64) : Prop := (∀ i, i < d → (P : Int) ∣ (c i).toInt - l * (x i).toInt ∧ 2 * ab (c i).toInt ≤ P) ∧ (c d).toInt = l ∧ ∀ i, d < i → i < 16 → c i = 0
theorem s_Mo_guess {K : zM → Prop} {a3 l d P : Nat} {M : zM} (h3 : zlong a3 = 16) (n3 : a3 ≠ 117) (hd : d < 16) (p0 : 0 < P) (p1 : P < 2 ^ 31) (hl : l ≤ 1000000) (hx : ∀ i, i < d → 0 ≤ (M a3 i).toInt ∧ (M a3 i).toInt < P) (k : ∀ M' : zM, (∀ a, a ≠ 117 → M' a = M a) → cnd P (M a3) l d (M' 117) → K M') : w_Mo_guess (lN l) a3 (nI d) (lN P) M K := by
  obtain ⟨q1, q2, q3, q4⟩ := z_lNp p0 p1
  have z : zlong 117 = 16 := by decide
  have li : (lN l).toInt = (l : Int) := pk_lT (by omega)
  have key : ∀ e j (M1 : zM), j + e = 16 → (∀ a, a ≠ 117 → M1 a = M a) → (∀ i, i < j → i < d → (P : Int) ∣ (M1 117 i).toInt - l * (M a3 i).toInt ∧ 2 * ab (M1 117 i).toInt ≤ P) → (d < j → (M1 117 d).toInt = l) → (∀ i, i < j → d < i → M1 117 i = 0) → L_Mo_guess_3 K (lN l) a3 (nI d) (lN P) (e + 1) (nI j) M1 := by
    intro e
    induction e with
    | zero =>
      intro j M1 hj g1 g2 g3 g4
      have : j = 16 := by omega
      subst this
      exact ⟨fun _ => k M1 g1 ⟨fun i hi => g2 i (by omega) hi, g3 hd, fun i a b => g4 i b a⟩, fun h => absurd (by decide) h⟩
    | succ e ih =>
      intro j M1 hj g1 g2 g3 g4
      have i1 : vp_in (nI j) (zlong 117) := by rw [z]; exact vp_in_nI (by omega) (by decide)
      have go : ∀ y : Int64, (j < d → (P : Int) ∣ y.toInt - l * (M a3 j).toInt ∧ 2 * ab y.toInt ≤ P) → (j = d → y.toInt = l) → (d < j → y = 0) → vp_in (nI j) (zlong 117) ∧ ∀ M' : zM, M' = zput M1 117 (nI j).toNatClampNeg y → L_Mo_guess_3 K (lN l) a3 (nI d) (lN P) (e + 1) (nI j + 1) M' := fun y y1 y2 y3 => ⟨i1, fun M' eM => by
        rw [nI_clamp (by omega)] at eM
        rw [eM, nI_1]
        refine ih (j + 1) _ (by omega) (fun a x => by rw [zput_ne x]; exact g1 a x) (fun i hi hid => ?_) (fun hdj => ?_) (fun i hi hdi => ?_)
        · by_cases c : i = j
          · subst c; rw [zput_eq]; exact y1 hid
          · rw [zput_n2 c]; exact g2 i (by omega) hid
        · by_cases c : d = j
          · subst c; rw [zput_eq]; exact y2 rfl
          · rw [zput_n2 c]; exact g3 (by omega)
        · by_cases c : i = j
          · subst c; rw [zput_eq]; exact y3 hdi
          · rw [zput_n2 c]; exact g4 i (by omega) hdi⟩
      refine ⟨fun h => absurd h (nI_ge (b := 16) (by omega) (by decide)), fun _ => ?_⟩
      by_cases c1 : j < d
      · have hxj := hx j c1
        have m0 : 0 ≤ (l : Int) * (M a3 j).toInt := Int.mul_nonneg (by omega) hxj.1
        have m1 : (l : Int) * (M a3 j).toInt ≤ 1000000 * 2147483647 := Int.mul_le_mul (by omega) (by omega) hxj.1 (by omega)
        have em : (lN l * M a3 j).toInt = (l : Int) * (M a3 j).toInt := by rw [zx_mul (by rw [li]; omega) (by rw [li]; omega), li]
        have er : ((lN l * M a3 j) - (lN l * M a3 j) / lN P * lN P).toInt = ((l : Int) * (M a3 j).toInt) % P := by
          rw [zrm_e q2 (by rw [em]; omega) (by rw [em]; exact m0), em, q1]
        have hr := z_emod p0 ((l : Int) * (M a3 j).toInt)
        have hdv := mod_dvd ((l : Int) * (M a3 j).toInt) (P : Int)
        refine ⟨fun h => absurd h (nI_ge (by omega) (by omega)), fun _ => ⟨by rw [h3]; exact vp_in_nI (by omega) (by decide), q4, ?_⟩⟩
        rw [nI_clamp (by omega), g1 a3 n3]
        generalize (lN l * M a3 j) - (lN l * M a3 j) / lN P * lN P = t at er
        have e2 : ((2 : Int64) * t).toInt = 2 * t.toInt := by
          rw [zx_mul (by show _ ≤ 2 * _; rw [er]; omega) (by show 2 * _ < _; rw [er]; omega)]
          rfl
        refine ⟨fun h => absurd h (nI_ge (by omega) (by omega)), fun _ => ⟨fun h => ?_, fun h => ?_⟩⟩
        · rw [Int64.le_iff_toInt_le, e2, q1] at h
          refine go t (fun _ => ⟨by rw [er]; exact hdv, ?_⟩) (fun c => by omega) (fun c => by omega)
          unfold ab; omega
        · rw [Int64.le_iff_toInt_le, e2, q1] at h
          have es : (t - lN P).toInt = t.toInt - P := by rw [zx_sub (by rw [er, q1]; omega) (by rw [er, q1]; omega), q1]
          refine go (t - lN P) (fun _ => ⟨?_, ?_⟩) (fun c => by omega) (fun c => by omega)
          · rw [es, er]
            obtain ⟨y, hy⟩ := hdv
            exact ⟨y - 1, by grind⟩
          · rw [es]; unfold ab; omega
      · refine ⟨fun _ => ⟨fun h => ?_, fun h => ?_⟩, fun h => absurd (nI_le (by omega) (by omega)) h⟩
        · have c2 : d < j := by
            rcases Nat.lt_or_ge d j with q | q
            · exact q
            · exact absurd (by rw [show j = d by omega]) h
          exact ⟨fun _ => go 0 (fun c => by omega) (fun c => by omega) (fun _ => rfl), fun h => absurd (nI_le (by omega) (by omega)) h⟩
        · have c2 : j = d := (nI_eq (by omega) (by omega)).mp h
          exact ⟨fun _ => go (lN l) (fun c => by omega) (fun _ => li) (fun c => by omega), fun h => absurd (nI_le (by omega) (by omega)) h⟩
  exact ⟨17, key 16 0 M (by omega) (fun _ _ => rfl) (fun i hi => by omega) (fun h => by omega) (fun i hi => by omega)⟩
theorem cnd_zdg {P : Nat} {x c : Nat → Int64} {l d : Nat} (hd : d < 16) (l0 : 0 < l) (h : cnd P x l d c) : zdg c 16 = d + 1 := by
  rw [zdg_up (n := d + 1) (by omega) (fun i a b => h.2.2 i (by omega) b)]
  show (if c d = 0 then zdg c d else d + 1) = _
  rw [if_neg (fun e => by have := h.2.1; rw [e] at this; have e2 : (0 : Int) = l := this; omega)]
theorem cnd_wd {P : Nat} {x c : Nat → Int64} {l d : Nat} (p1 : P ≤ 2000000000) (hl : l ≤ 1000000) (h : cnd P x l d c) : zwd c 16 := fun i hi => by
  rcases Nat.lt_trichotomy i d with g | g | g
  · have := (h.1 i g).2
    unfold ab at this
    omega
  · rw [g, h.2.1]; omega
  · rw [h.2.2 i g hi]; exact ⟨by decide, by decide⟩
theorem s_Mo_isShared {K : Int32 → zM → Prop} {a6 a7 l d P : Nat} {M : zM} (h6 : zlong a6 = 16) (h7 : zlong a7 = 16) (r6 : a6 ≠ 117 ∧ a6 ≠ 110 ∧ a6 ≠ 109) (r7 : a7 ≠ 117 ∧ a7 ≠ 110 ∧ a7 ≠ 109) (hd : d < 16) (p0 : 0 < P) (p1 : P ≤ 2000000000) (l0 : 0 < l) (hl : l ≤ 1000000) (hx : ∀ i, i < d → 0 ≤ (M 111 i).toInt ∧ (M 111 i).toInt < P) (d6 : zdg (M a6) 16 ≤ 8) (d7 : zdg (M a7) 16 ≤ 8) (b6 : ∀ i, i < 16 → (M a6 i).toInt.natAbs ≤ 100000000000000000) (b7 : ∀ i, i < 16 → (M a7 i).toInt.natAbs ≤ 100000000000000000)
    (yes : ∀ M' : zM, (∀ a, a ≠ 117 → a ≠ 110 → a ≠ 109 → M' a = M a) → cnd P (M 111) l d (M' 117) → zgc (M' 117) 16 = 1 → (∃ q : Nat → Int64, pdiv (pr 16 (M a6)) (pr 16 (M' 117)) (pr 16 q)) → (∃ q : Nat → Int64, pdiv (pr 16 (M a7)) (pr 16 (M' 117)) (pr 16 q)) → K 1 M')
    (no : ∀ M' : zM, (∀ a, a ≠ 117 → a ≠ 110 → a ≠ 109 → M' a = M a) → cnd P (M 111) l d (M' 117) → (zgc (M' 117) 16 = 1 → (∃ q, pdiv (pr 16 (M a6)) (pr 16 (M' 117)) q) → (∃ q, pdiv (pr 16 (M a7)) (pr 16 (M' 117)) q) → False) → K 0 M') : w_Mo_isShared (lN l) (nI d) (lN P) a6 a7 M K := by
  have z : zlong 117 = 16 := by decide
  refine s_Mo_guess (by decide) (by decide) hd p0 (by omega) hl hx (fun M2 f1 hc => ?_)
  have hw := cnd_wd p1 hl hc
  have hz := cnd_zdg hd l0 hc
  have hgl : zgc (M2 117) 16 < 2 ^ 62 := by
    have := zgc_le (f := M2 117) (B := 1000000000) 16 (fun i hi => by have := hw i hi; unfold zab; omega)
    omega
  refine s_Mo_contentOf z (fun i hi => by have := hw i hi; unfold zab; omega) ⟨fun h => ⟨rfl, no M2 (fun a x _ _ => f1 a x) hc (fun g _ _ => h (by rw [g]; rfl))⟩, fun h => ?_⟩
  have hg1 : zgc (M2 117) 16 = 1 := (pk_lEQ (a := zgc (M2 117) 16) (b := 1) (by omega) (by decide)).mp h
  have e6 : M2 a6 = M a6 := f1 a6 r6.1
  have e7 : M2 a7 = M a7 := f1 a7 r7.1
  refine s_Mo_divides z h6 (by decide) (by decide) r6.2.1 r6.2.2 (by omega) (by rw [e6]; exact d6) hw (fun i hi => by rw [e6]; exact b6 i hi) (fun M3 f2 hq => ⟨fun c => absurd c (by decide), fun _ => ?_⟩) (fun M3 f2 hno => ⟨fun _ => ⟨rfl, no M3 (fun a x y z' => by rw [f2 a y z']; exact f1 a x) (by rw [f2 117 (by decide) (by decide)]; exact hc) (fun _ h6' _ => hno (by rw [f2 117 (by decide) (by decide)] at h6'; rw [e6]; exact h6'))⟩, fun c => absurd rfl c⟩)
  rw [e6] at hq
  have e3 : M3 117 = M2 117 := f2 117 (by decide) (by decide)
  have e37 : M3 a7 = M a7 := by rw [f2 a7 r7.2.1 r7.2.2, e7]
  refine s_Mo_divides z h7 (by decide) (by decide) r7.2.1 r7.2.2 (by rw [e3]; omega) (by rw [e37]; exact d7) (by rw [e3]; exact hw) (fun i hi => by rw [e37]; exact b7 i hi) (fun M4 f3 hq2 => ⟨fun c => absurd c (by decide), fun _ => ⟨rfl, ?_⟩⟩) (fun M4 f3 hno => ⟨fun _ => ⟨rfl, no M4 (fun a x y z' => by rw [f3 a y z', f2 a y z']; exact f1 a x) (by rw [f3 117 (by decide) (by decide), e3]; exact hc) (fun _ _ h7' => hno (by rw [f3 117 (by decide) (by decide), e3] at h7'; rw [e37, e3]; exact h7'))⟩, fun c => absurd rfl c⟩)
  rw [e37, e3] at hq2
  have e4 : M4 117 = M2 117 := by rw [f3 117 (by decide) (by decide), e3]
  exact yes M4 (fun a x y z' => by rw [f3 a y z', f2 a y z']; exact f1 a x) (by rw [e4]; exact hc) (by rw [e4]; exact hg1) ⟨_, by rw [e4]; exact hq⟩ ⟨_, by rw [e4]; exact hq2⟩
